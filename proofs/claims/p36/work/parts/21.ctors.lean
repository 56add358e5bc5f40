theorem a_aastoreM {X : Xc} {K : Kc} {cc : ByteArray} {nL : Nat} {own : String} {rm : Room} {A : Nat → Prop} {Q : State → Prop} {ws : va_W} {cs ss pc : Nat} {lo : List (Option Value)} {st : List Value} {q0 t0 ci a v n : Nat} {r : vw_C} {vs : List Value} {f : Nat → Option Nat} {cA : ClassId} {i : Int32} (ws' : va_W) (C : MA X K cc nL own rm A) (ha : ws[q0]? = some (a, .inl (cA, n, .inr (.inr (.inr (.inr f)))))) (ht : (tysX X)[t0]? = some (cA, .object r.1)) (hv : (v, .inr (ci, vs)) ∈ ws) (hc : classes[ci]? = some r) (hi : vp_in i n) (d : decode cc pc = .ok (.aastore, 1)) (hs : ws.set q0 (a, .inl (cA, n, .inr (.inr (.inr (.inr (va_up f i.toNatClampNeg (some v))))))) = ws') (k : GA X K A nL Q ws' cs ss (pc + 1) lo st) : GA X K A nL Q ws cs ss pc lo (.ref v :: .int i :: .ref a :: st) := by
  obtain ⟨qk, hqk⟩ := List.getElem?_of_mem hv
  exact a_aastore ws' C ha ht hqk hc hi d hs k
/-! what the constructors leave: the cells of each class's block, by the block's addresses -/
def orW (X : Xc) (q : Nat → Nat) : va_W := [(q 0, .inr (0, [.ref (q 1), .int 0])), (q 1, .inl (X.ac 0, 12, .inl (fun _ => 0)))]
def plW (X : Xc) (q : Nat → Nat) : va_W := [(q 0, .inr (1, [.ref (q 1), .ref (q 2), .ref (q 3), .ref (q 4), .ref (q 5), .ref (q 6), .ref (q 8), .ref (q 9), .ref (q 10), .ref (q 11), .ref (q 12), .ref (q 13), .ref (q 14), .ref (q 15)])), (q 1, .inl (X.ac 0, 5, .inl (fun _ => 0))), (q 2, .inl (X.ac 0, 5, .inl (fun _ => 0))), (q 3, .inl (X.ac 0, 5, .inl (fun _ => 120))), (q 4, .inl (X.ac 0, 5, .inl (fun _ => 60))), (q 5, .inl (X.ac 0, 5, .inl (fun _ => (-1)))), (q 6, .inr (0, [.ref (q 7), .int 0])), (q 7, .inl (X.ac 0, 12, .inl (fun _ => 0))), (q 8, .inl (X.ac 0, 23, .inl (fun _ => 3))), (q 9, .inl (X.ac 0, 23, .inl (fun _ => (-1)))), (q 10, .inl (X.ac 0, 23, .inl (fun _ => 0))), (q 11, .inl (X.ac 0, 23, .inl (fun _ => 0))), (q 12, .inl (X.ac 0, 23, .inl (fun _ => 0))), (q 13, .inl (X.ac 0, 12, .inl (fun _ => (-1)))), (q 14, .inl (X.ac 0, 12, .inl (fun _ => (-1)))), (q 15, .inl (X.ac 0, 12, .inl (fun _ => 0)))]
def sl3 (a b c : Nat) : Nat → Option Nat := va_up (va_up (va_up (fun _ => none) 0 (some a)) 1 (some b)) 2 (some c)
def sl5 (a b c d e : Nat) : Nat → Option Nat := va_up (va_up (va_up (va_up (va_up (fun _ => none) 0 (some a)) 1 (some b)) 2 (some c)) 3 (some d)) 4 (some e)
def stW (X : Xc) (q : Nat → Nat) : va_W := (q 0, .inr (4, [.int 0, .ref (q 1), .ref (q 2), .ref (q 3), .ref (q 5), .ref (q 21), .int 0])) :: (q 1, .inl (X.ac 0, 12, .inl (fun _ => 0))) :: (q 2, .inl (X.ac 0, 12, .inl (fun _ => 0))) :: (q 21, .inl (X.ac 3, 3, .inr (.inr (.inr (.inr (sl3 (q 22) (q 38) (q 54))))))) :: ((((orW X (fun k => q (3 + k)) ++ plW X (fun k => q (5 + k))) ++ plW X (fun k => q (22 + k))) ++ plW X (fun k => q (38 + k))) ++ plW X (fun k => q (54 + k)))
def shW (X : Xc) (q : Nat → Nat) : va_W := [(q 0, .inr (3, [.ref (q 1), .ref (q 2), .ref (q 3), .ref (q 4), .ref (q 5), .int 0])), (q 1, .inl (X.ac 0, 23, .inl (fun _ => 0))), (q 2, .inl (X.ac 0, 23, .inl (fun _ => 0))), (q 3, .inl (X.ac 0, 23, .inl (fun _ => 0))), (q 4, .inl (X.ac 0, 23, .inl (fun _ => 0))), (q 5, .inl (X.ac 0, 23, .inl (fun _ => 0)))]
def pnW (X : Xc) (q : Nat → Nat) : va_W := (q 0, .inr (2, [.ref (q 1), .ref (q 2), .ref (q 3), .ref (q 4), .ref (q 5), .ref (q 6), .ref (q 7), .ref (q 8), .int 0, .ref (q 9), .ref (q 10)])) :: (q 1, .inl (X.ac 0, 23, .inl (fun _ => 0))) :: (q 2, .inl (X.ac 0, 23, .inl (fun _ => 0))) :: (q 3, .inl (X.ac 0, 23, .inl (fun _ => 0))) :: (q 4, .inl (X.ac 0, 23, .inl (fun _ => 0))) :: (q 5, .inl (X.ac 0, 23, .inl (fun _ => 0))) :: (q 6, .inl (X.ac 0, 23, .inl (fun _ => 0))) :: (q 7, .inl (X.ac 0, 23, .inl (fun _ => 0))) :: (q 8, .inl (X.ac 0, 23, .inl (fun _ => 0))) :: (q 9, .inl (X.ac 0, 23, .inl (fun _ => 0))) :: shW X (fun k => q (10 + k))
def txW (X : Xc) (q : Nat → Nat) : va_W := [(q 0, .inr (5, [.ref (q 1), .int 0])), (q 1, .inl (X.ac 0, 120, .inl (fun _ => 0)))]
def rdW (X : Xc) (q : Nat → Nat) : va_W := (q 0, .inr (6, [.ref (q 1), .ref (q 3), .int 0, .int 0])) :: (txW X (fun k => q (1 + k)) ++ plW X (fun k => q (3 + k)))
def wrW (X : Xc) (q : Nat → Nat) : va_W := (q 0, .inr (7, [.ref (q 1)])) :: txW X (fun k => q (1 + k))
def dlW (X : Xc) (q : Nat → Nat) : va_W := (q 0, .inr (8, [.ref (q 1), .ref (q 71), .int 0, .int 0, .ref (q 422), .ref (q 438), .ref (q 440), .ref (q 459)])) :: (q 71, .inl (X.ac 4, 5, .inr (.inr (.inr (.inr (sl5 (q 72) (q 142) (q 212) (q 282) (q 352))))))) :: (((((((((stW X (fun k => q (1 + k)) ++ pnW X (fun k => q (422 + k))) ++ txW X (fun k => q (438 + k))) ++ rdW X (fun k => q (440 + k))) ++ wrW X (fun k => q (459 + k))) ++ stW X (fun k => q (72 + k))) ++ stW X (fun k => q (142 + k))) ++ stW X (fun k => q (212 + k))) ++ stW X (fun k => q (282 + k))) ++ stW X (fun k => q (352 + k)))

theorem dX0_init_0 : decode cX0_init 0 = .ok (.aload_n 0, 1) := by decide +kernel
theorem dX0_init_1 : decode cX0_init 1 = .ok (.invokespecial 3, 3) := by decide +kernel
theorem dX0_init_4 : decode cX0_init 4 = .ok (.aload_n 0, 1) := by decide +kernel
theorem dX0_init_5 : decode cX0_init 5 = .ok (.bipush 12, 2) := by decide +kernel
theorem dX0_init_7 : decode cX0_init 7 = .ok (.newarray .int, 2) := by decide +kernel
theorem dX0_init_9 : decode cX0_init 9 = .ok (.putfield 9, 3) := by decide +kernel
theorem dX0_init_12 : decode cX0_init 12 = .ok (.return_, 1) := by decide +kernel
abbrev rmX0_init : Room := { frames := 2, cells := 1, slots := 12, locals := 60 }
theorem hdX0_init : yX0_init.cls ≠ "java/lang/invoke/MethodHandle" ∧ yX0_init.cls ≠ "java/lang/invoke/VarHandle" ∧ (parseMethodDescriptor yX0_init.desc).map (fun d => d.parameters.length) = some 0 := by decide +kernel
theorem iX0_init (X : Xc) (h0 sz : Nat) : Met X.l yX0_init (wsM yX0_init cX0_init 1 none) rmX0_init (va_Pc [.ref h0] (PA X [(h0, .inr (0, [.null, .int 0]))] sz)) (QA X (h0, .inr (0, [.null, .int 0])) sz (fun w => ∃ q : Nat → Nat, q 0 = h0 ∧ w.Perm (orW X q))) 1 12 (va_A [(h0, .inr (0, [.null, .int 0]))] sz) := by
  refine ct_of (own := RX0) (lo := [some (.ref h0)]) (by decide) rfl (Nat.le_of_ble_eq_true rfl) rfl (fun K C hr hin hz => ?_)
  refine a_aload_n (pc := 0) (i := 0) C dX0_init_0 rfl rfl ?_
  refine a_obj (pc := 1) C q_3_4 q_1_11 q_1_12 (Nat.le_of_ble_eq_true rfl) (Nat.le_of_ble_eq_true rfl) dX0_init_1 ?_
  refine a_aload_n (pc := 4) (i := 0) C dX0_init_4 rfl rfl ?_
  refine a_bipush (pc := 5) (v := 12) C dX0_init_5 (by decide) ?_
  refine a_newint (pc := 7) (N := 12) (fun q1 => [(h0, .inr (0, [.null, .int 0])), (q1, .inl (X.ac 0, 12, .inl (fun _ => 0)))]) C q_2_14 (by decide) (by decide) (by decide) (Nat.le_of_ble_eq_true rfl) (Nat.le_of_ble_eq_true rfl) dX0_init_7 (fun _ => rfl) (fun q1 => ?_)
  refine a_putF (pc := 9) (q0 := 0) (j := 0) (ci := 0) (N := 2) (T := TX0) (Cn := RX0) ([(h0, .inr (0, [.ref q1, .int 0])), (q1, .inl (X.ac 0, 12, .inl (fun _ => 0)))]) C hin rfl rfl inlX0 tyX0_ok nmX0 (Nat.le_of_ble_eq_true rfl) q_3_5 rfl rfl rfl rfl (Nat.le_of_ble_eq_true rfl) dX0_init_9 rfl ?_
  exact a_vret (pc := 12) C hr hz dX0_init_12 (Nat.le_of_ble_eq_true rfl) (Nat.le_of_ble_eq_true rfl) ⟨fun k => ([h0, q1] : List Nat).getD k 0, rfl, List.Perm.refl _⟩
theorem dX5_init_0 : decode cX5_init 0 = .ok (.aload_n 0, 1) := by decide +kernel
theorem dX5_init_1 : decode cX5_init 1 = .ok (.invokespecial 3, 3) := by decide +kernel
theorem dX5_init_4 : decode cX5_init 4 = .ok (.aload_n 0, 1) := by decide +kernel
theorem dX5_init_5 : decode cX5_init 5 = .ok (.bipush 120, 2) := by decide +kernel
theorem dX5_init_7 : decode cX5_init 7 = .ok (.newarray .int, 2) := by decide +kernel
theorem dX5_init_9 : decode cX5_init 9 = .ok (.putfield 9, 3) := by decide +kernel
theorem dX5_init_12 : decode cX5_init 12 = .ok (.return_, 1) := by decide +kernel
abbrev rmX5_init : Room := { frames := 2, cells := 1, slots := 120, locals := 60 }
theorem hdX5_init : yX5_init.cls ≠ "java/lang/invoke/MethodHandle" ∧ yX5_init.cls ≠ "java/lang/invoke/VarHandle" ∧ (parseMethodDescriptor yX5_init.desc).map (fun d => d.parameters.length) = some 0 := by decide +kernel
theorem iX5_init (X : Xc) (h0 sz : Nat) : Met X.l yX5_init (wsM yX5_init cX5_init 1 none) rmX5_init (va_Pc [.ref h0] (PA X [(h0, .inr (5, [.null, .int 0]))] sz)) (QA X (h0, .inr (5, [.null, .int 0])) sz (fun w => ∃ q : Nat → Nat, q 0 = h0 ∧ w.Perm (txW X q))) 1 120 (va_A [(h0, .inr (5, [.null, .int 0]))] sz) := by
  refine ct_of (own := RX5) (lo := [some (.ref h0)]) (by decide) rfl (Nat.le_of_ble_eq_true rfl) rfl (fun K C hr hin hz => ?_)
  refine a_aload_n (pc := 0) (i := 0) C dX5_init_0 rfl rfl ?_
  refine a_obj (pc := 1) C q_5_7 q_1_11 q_1_12 (Nat.le_of_ble_eq_true rfl) (Nat.le_of_ble_eq_true rfl) dX5_init_1 ?_
  refine a_aload_n (pc := 4) (i := 0) C dX5_init_4 rfl rfl ?_
  refine a_bipush (pc := 5) (v := 120) C dX5_init_5 (by decide) ?_
  refine a_newint (pc := 7) (N := 120) (fun q1 => [(h0, .inr (5, [.null, .int 0])), (q1, .inl (X.ac 0, 120, .inl (fun _ => 0)))]) C q_2_14 (by decide) (by decide) (by decide) (Nat.le_of_ble_eq_true rfl) (Nat.le_of_ble_eq_true rfl) dX5_init_7 (fun _ => rfl) (fun q1 => ?_)
  refine a_putF (pc := 9) (q0 := 0) (j := 0) (ci := 5) (N := 2) (T := TX5) (Cn := RX5) ([(h0, .inr (5, [.ref q1, .int 0])), (q1, .inl (X.ac 0, 120, .inl (fun _ => 0)))]) C hin rfl rfl inlX5 tyX5_ok nmX5 (Nat.le_of_ble_eq_true rfl) q_5_8 rfl rfl rfl rfl (Nat.le_of_ble_eq_true rfl) dX5_init_9 rfl ?_
  exact a_vret (pc := 12) C hr hz dX5_init_12 (Nat.le_of_ble_eq_true rfl) (Nat.le_of_ble_eq_true rfl) ⟨fun k => ([h0, q1] : List Nat).getD k 0, rfl, List.Perm.refl _⟩
theorem dX3_init_0 : decode cX3_init 0 = .ok (.aload_n 0, 1) := by decide +kernel
theorem dX3_init_1 : decode cX3_init 1 = .ok (.invokespecial 3, 3) := by decide +kernel
theorem dX3_init_4 : decode cX3_init 4 = .ok (.aload_n 0, 1) := by decide +kernel
theorem dX3_init_5 : decode cX3_init 5 = .ok (.bipush 23, 2) := by decide +kernel
theorem dX3_init_7 : decode cX3_init 7 = .ok (.newarray .int, 2) := by decide +kernel
theorem dX3_init_9 : decode cX3_init 9 = .ok (.putfield 9, 3) := by decide +kernel
theorem dX3_init_12 : decode cX3_init 12 = .ok (.aload_n 0, 1) := by decide +kernel
theorem dX3_init_13 : decode cX3_init 13 = .ok (.bipush 23, 2) := by decide +kernel
theorem dX3_init_15 : decode cX3_init 15 = .ok (.newarray .int, 2) := by decide +kernel
theorem dX3_init_17 : decode cX3_init 17 = .ok (.putfield 15, 3) := by decide +kernel
theorem dX3_init_20 : decode cX3_init 20 = .ok (.aload_n 0, 1) := by decide +kernel
theorem dX3_init_21 : decode cX3_init 21 = .ok (.bipush 23, 2) := by decide +kernel
theorem dX3_init_23 : decode cX3_init 23 = .ok (.newarray .int, 2) := by decide +kernel
theorem dX3_init_25 : decode cX3_init 25 = .ok (.putfield 18, 3) := by decide +kernel
theorem dX3_init_28 : decode cX3_init 28 = .ok (.aload_n 0, 1) := by decide +kernel
theorem dX3_init_29 : decode cX3_init 29 = .ok (.bipush 23, 2) := by decide +kernel
theorem dX3_init_31 : decode cX3_init 31 = .ok (.newarray .int, 2) := by decide +kernel
theorem dX3_init_33 : decode cX3_init 33 = .ok (.putfield 21, 3) := by decide +kernel
theorem dX3_init_36 : decode cX3_init 36 = .ok (.aload_n 0, 1) := by decide +kernel
theorem dX3_init_37 : decode cX3_init 37 = .ok (.bipush 23, 2) := by decide +kernel
theorem dX3_init_39 : decode cX3_init 39 = .ok (.newarray .int, 2) := by decide +kernel
theorem dX3_init_41 : decode cX3_init 41 = .ok (.putfield 24, 3) := by decide +kernel
theorem dX3_init_44 : decode cX3_init 44 = .ok (.return_, 1) := by decide +kernel
abbrev rmX3_init : Room := { frames := 2, cells := 5, slots := 115, locals := 60 }
theorem hdX3_init : yX3_init.cls ≠ "java/lang/invoke/MethodHandle" ∧ yX3_init.cls ≠ "java/lang/invoke/VarHandle" ∧ (parseMethodDescriptor yX3_init.desc).map (fun d => d.parameters.length) = some 0 := by decide +kernel
theorem iX3_init (X : Xc) (h0 sz : Nat) : Met X.l yX3_init (wsM yX3_init cX3_init 1 none) rmX3_init (va_Pc [.ref h0] (PA X [(h0, .inr (3, [.null, .null, .null, .null, .null, .int 0]))] sz)) (QA X (h0, .inr (3, [.null, .null, .null, .null, .null, .int 0])) sz (fun w => ∃ q : Nat → Nat, q 0 = h0 ∧ w.Perm (shW X q))) 5 115 (va_A [(h0, .inr (3, [.null, .null, .null, .null, .null, .int 0]))] sz) := by
  refine ct_of (own := RX3) (lo := [some (.ref h0)]) (by decide) rfl (Nat.le_of_ble_eq_true rfl) rfl (fun K C hr hin hz => ?_)
  refine a_aload_n (pc := 0) (i := 0) C dX3_init_0 rfl rfl ?_
  refine a_obj (pc := 1) C q_4_23 q_1_11 q_1_12 (Nat.le_of_ble_eq_true rfl) (Nat.le_of_ble_eq_true rfl) dX3_init_1 ?_
  refine a_aload_n (pc := 4) (i := 0) C dX3_init_4 rfl rfl ?_
  refine a_bipush (pc := 5) (v := 23) C dX3_init_5 (by decide) ?_
  refine a_newint (pc := 7) (N := 23) (fun q1 => [(h0, .inr (3, [.null, .null, .null, .null, .null, .int 0])), (q1, .inl (X.ac 0, 23, .inl (fun _ => 0)))]) C q_2_14 (by decide) (by decide) (by decide) (Nat.le_of_ble_eq_true rfl) (Nat.le_of_ble_eq_true rfl) dX3_init_7 (fun _ => rfl) (fun q1 => ?_)
  refine a_putF (pc := 9) (q0 := 0) (j := 0) (ci := 3) (N := 6) (T := TX3) (Cn := RX3) ([(h0, .inr (3, [.ref q1, .null, .null, .null, .null, .int 0])), (q1, .inl (X.ac 0, 23, .inl (fun _ => 0)))]) C hin rfl rfl inlX3 tyX3_ok nmX3 (Nat.le_of_ble_eq_true rfl) q_5_0 rfl rfl rfl rfl (Nat.le_of_ble_eq_true rfl) dX3_init_9 rfl ?_
  refine a_aload_n (pc := 12) (i := 0) C dX3_init_12 rfl rfl ?_
  refine a_bipush (pc := 13) (v := 23) C dX3_init_13 (by decide) ?_
  refine a_newint (pc := 15) (N := 23) (fun q2 => [(h0, .inr (3, [.ref q1, .null, .null, .null, .null, .int 0])), (q1, .inl (X.ac 0, 23, .inl (fun _ => 0))), (q2, .inl (X.ac 0, 23, .inl (fun _ => 0)))]) C q_2_14 (by decide) (by decide) (by decide) (Nat.le_of_ble_eq_true rfl) (Nat.le_of_ble_eq_true rfl) dX3_init_15 (fun _ => rfl) (fun q2 => ?_)
  refine a_putF (pc := 17) (q0 := 0) (j := 1) (ci := 3) (N := 6) (T := TX3) (Cn := RX3) ([(h0, .inr (3, [.ref q1, .ref q2, .null, .null, .null, .int 0])), (q1, .inl (X.ac 0, 23, .inl (fun _ => 0))), (q2, .inl (X.ac 0, 23, .inl (fun _ => 0)))]) C hin rfl rfl inlX3 tyX3_ok nmX3 (Nat.le_of_ble_eq_true rfl) q_5_1 rfl rfl rfl rfl (Nat.le_of_ble_eq_true rfl) dX3_init_17 rfl ?_
  refine a_aload_n (pc := 20) (i := 0) C dX3_init_20 rfl rfl ?_
  refine a_bipush (pc := 21) (v := 23) C dX3_init_21 (by decide) ?_
  refine a_newint (pc := 23) (N := 23) (fun q3 => [(h0, .inr (3, [.ref q1, .ref q2, .null, .null, .null, .int 0])), (q1, .inl (X.ac 0, 23, .inl (fun _ => 0))), (q2, .inl (X.ac 0, 23, .inl (fun _ => 0))), (q3, .inl (X.ac 0, 23, .inl (fun _ => 0)))]) C q_2_14 (by decide) (by decide) (by decide) (Nat.le_of_ble_eq_true rfl) (Nat.le_of_ble_eq_true rfl) dX3_init_23 (fun _ => rfl) (fun q3 => ?_)
  refine a_putF (pc := 25) (q0 := 0) (j := 2) (ci := 3) (N := 6) (T := TX3) (Cn := RX3) ([(h0, .inr (3, [.ref q1, .ref q2, .ref q3, .null, .null, .int 0])), (q1, .inl (X.ac 0, 23, .inl (fun _ => 0))), (q2, .inl (X.ac 0, 23, .inl (fun _ => 0))), (q3, .inl (X.ac 0, 23, .inl (fun _ => 0)))]) C hin rfl rfl inlX3 tyX3_ok nmX3 (Nat.le_of_ble_eq_true rfl) q_5_2 rfl rfl rfl rfl (Nat.le_of_ble_eq_true rfl) dX3_init_25 rfl ?_
  refine a_aload_n (pc := 28) (i := 0) C dX3_init_28 rfl rfl ?_
  refine a_bipush (pc := 29) (v := 23) C dX3_init_29 (by decide) ?_
  refine a_newint (pc := 31) (N := 23) (fun q4 => [(h0, .inr (3, [.ref q1, .ref q2, .ref q3, .null, .null, .int 0])), (q1, .inl (X.ac 0, 23, .inl (fun _ => 0))), (q2, .inl (X.ac 0, 23, .inl (fun _ => 0))), (q3, .inl (X.ac 0, 23, .inl (fun _ => 0))), (q4, .inl (X.ac 0, 23, .inl (fun _ => 0)))]) C q_2_14 (by decide) (by decide) (by decide) (Nat.le_of_ble_eq_true rfl) (Nat.le_of_ble_eq_true rfl) dX3_init_31 (fun _ => rfl) (fun q4 => ?_)
  refine a_putF (pc := 33) (q0 := 0) (j := 3) (ci := 3) (N := 6) (T := TX3) (Cn := RX3) ([(h0, .inr (3, [.ref q1, .ref q2, .ref q3, .ref q4, .null, .int 0])), (q1, .inl (X.ac 0, 23, .inl (fun _ => 0))), (q2, .inl (X.ac 0, 23, .inl (fun _ => 0))), (q3, .inl (X.ac 0, 23, .inl (fun _ => 0))), (q4, .inl (X.ac 0, 23, .inl (fun _ => 0)))]) C hin rfl rfl inlX3 tyX3_ok nmX3 (Nat.le_of_ble_eq_true rfl) q_5_3 rfl rfl rfl rfl (Nat.le_of_ble_eq_true rfl) dX3_init_33 rfl ?_
  refine a_aload_n (pc := 36) (i := 0) C dX3_init_36 rfl rfl ?_
  refine a_bipush (pc := 37) (v := 23) C dX3_init_37 (by decide) ?_
  refine a_newint (pc := 39) (N := 23) (fun q5 => [(h0, .inr (3, [.ref q1, .ref q2, .ref q3, .ref q4, .null, .int 0])), (q1, .inl (X.ac 0, 23, .inl (fun _ => 0))), (q2, .inl (X.ac 0, 23, .inl (fun _ => 0))), (q3, .inl (X.ac 0, 23, .inl (fun _ => 0))), (q4, .inl (X.ac 0, 23, .inl (fun _ => 0))), (q5, .inl (X.ac 0, 23, .inl (fun _ => 0)))]) C q_2_14 (by decide) (by decide) (by decide) (Nat.le_of_ble_eq_true rfl) (Nat.le_of_ble_eq_true rfl) dX3_init_39 (fun _ => rfl) (fun q5 => ?_)
  refine a_putF (pc := 41) (q0 := 0) (j := 4) (ci := 3) (N := 6) (T := TX3) (Cn := RX3) ([(h0, .inr (3, [.ref q1, .ref q2, .ref q3, .ref q4, .ref q5, .int 0])), (q1, .inl (X.ac 0, 23, .inl (fun _ => 0))), (q2, .inl (X.ac 0, 23, .inl (fun _ => 0))), (q3, .inl (X.ac 0, 23, .inl (fun _ => 0))), (q4, .inl (X.ac 0, 23, .inl (fun _ => 0))), (q5, .inl (X.ac 0, 23, .inl (fun _ => 0)))]) C hin rfl rfl inlX3 tyX3_ok nmX3 (Nat.le_of_ble_eq_true rfl) q_5_4 rfl rfl rfl rfl (Nat.le_of_ble_eq_true rfl) dX3_init_41 rfl ?_
  exact a_vret (pc := 44) C hr hz dX3_init_44 (Nat.le_of_ble_eq_true rfl) (Nat.le_of_ble_eq_true rfl) ⟨fun k => ([h0, q1, q2, q3, q4, q5] : List Nat).getD k 0, rfl, List.Perm.refl _⟩
theorem dX1_init_0 : decode cX1_init 0 = .ok (.aload_n 0, 1) := by decide +kernel
theorem dX1_init_1 : decode cX1_init 1 = .ok (.invokespecial 3, 3) := by decide +kernel
theorem dX1_init_4 : decode cX1_init 4 = .ok (.aload_n 0, 1) := by decide +kernel
theorem dX1_init_5 : decode cX1_init 5 = .ok (.iconst 5, 1) := by decide +kernel
theorem dX1_init_6 : decode cX1_init 6 = .ok (.newarray .int, 2) := by decide +kernel
theorem dX1_init_8 : decode cX1_init 8 = .ok (.putfield 9, 3) := by decide +kernel
theorem dX1_init_11 : decode cX1_init 11 = .ok (.aload_n 0, 1) := by decide +kernel
theorem dX1_init_12 : decode cX1_init 12 = .ok (.iconst 5, 1) := by decide +kernel
theorem dX1_init_13 : decode cX1_init 13 = .ok (.newarray .int, 2) := by decide +kernel
theorem dX1_init_15 : decode cX1_init 15 = .ok (.putfield 15, 3) := by decide +kernel
theorem dX1_init_18 : decode cX1_init 18 = .ok (.aload_n 0, 1) := by decide +kernel
theorem dX1_init_19 : decode cX1_init 19 = .ok (.iconst 5, 1) := by decide +kernel
theorem dX1_init_20 : decode cX1_init 20 = .ok (.newarray .int, 2) := by decide +kernel
theorem dX1_init_22 : decode cX1_init 22 = .ok (.putfield 18, 3) := by decide +kernel
theorem dX1_init_25 : decode cX1_init 25 = .ok (.aload_n 0, 1) := by decide +kernel
theorem dX1_init_26 : decode cX1_init 26 = .ok (.iconst 5, 1) := by decide +kernel
theorem dX1_init_27 : decode cX1_init 27 = .ok (.newarray .int, 2) := by decide +kernel
theorem dX1_init_29 : decode cX1_init 29 = .ok (.putfield 21, 3) := by decide +kernel
theorem dX1_init_32 : decode cX1_init 32 = .ok (.aload_n 0, 1) := by decide +kernel
theorem dX1_init_33 : decode cX1_init 33 = .ok (.iconst 5, 1) := by decide +kernel
theorem dX1_init_34 : decode cX1_init 34 = .ok (.newarray .int, 2) := by decide +kernel
theorem dX1_init_36 : decode cX1_init 36 = .ok (.putfield 24, 3) := by decide +kernel
theorem dX1_init_39 : decode cX1_init 39 = .ok (.aload_n 0, 1) := by decide +kernel
theorem dX1_init_40 : decode cX1_init 40 = .ok (.new 27, 3) := by decide +kernel
theorem dX1_init_43 : decode cX1_init 43 = .ok (.dup, 1) := by decide +kernel
theorem dX1_init_44 : decode cX1_init 44 = .ok (.invokespecial 29, 3) := by decide +kernel
theorem dX1_init_47 : decode cX1_init 47 = .ok (.putfield 30, 3) := by decide +kernel
theorem dX1_init_50 : decode cX1_init 50 = .ok (.aload_n 0, 1) := by decide +kernel
theorem dX1_init_51 : decode cX1_init 51 = .ok (.bipush 23, 2) := by decide +kernel
theorem dX1_init_53 : decode cX1_init 53 = .ok (.newarray .int, 2) := by decide +kernel
theorem dX1_init_55 : decode cX1_init 55 = .ok (.putfield 34, 3) := by decide +kernel
theorem dX1_init_58 : decode cX1_init 58 = .ok (.aload_n 0, 1) := by decide +kernel
theorem dX1_init_59 : decode cX1_init 59 = .ok (.bipush 23, 2) := by decide +kernel
theorem dX1_init_61 : decode cX1_init 61 = .ok (.newarray .int, 2) := by decide +kernel
theorem dX1_init_63 : decode cX1_init 63 = .ok (.putfield 37, 3) := by decide +kernel
theorem dX1_init_66 : decode cX1_init 66 = .ok (.aload_n 0, 1) := by decide +kernel
theorem dX1_init_67 : decode cX1_init 67 = .ok (.bipush 23, 2) := by decide +kernel
theorem dX1_init_69 : decode cX1_init 69 = .ok (.newarray .int, 2) := by decide +kernel
theorem dX1_init_71 : decode cX1_init 71 = .ok (.putfield 40, 3) := by decide +kernel
theorem dX1_init_74 : decode cX1_init 74 = .ok (.aload_n 0, 1) := by decide +kernel
theorem dX1_init_75 : decode cX1_init 75 = .ok (.bipush 23, 2) := by decide +kernel
theorem dX1_init_77 : decode cX1_init 77 = .ok (.newarray .int, 2) := by decide +kernel
theorem dX1_init_79 : decode cX1_init 79 = .ok (.putfield 43, 3) := by decide +kernel
theorem dX1_init_82 : decode cX1_init 82 = .ok (.aload_n 0, 1) := by decide +kernel
theorem dX1_init_83 : decode cX1_init 83 = .ok (.bipush 23, 2) := by decide +kernel
theorem dX1_init_85 : decode cX1_init 85 = .ok (.newarray .int, 2) := by decide +kernel
theorem dX1_init_87 : decode cX1_init 87 = .ok (.putfield 46, 3) := by decide +kernel
theorem dX1_init_90 : decode cX1_init 90 = .ok (.aload_n 0, 1) := by decide +kernel
theorem dX1_init_91 : decode cX1_init 91 = .ok (.bipush 12, 2) := by decide +kernel
theorem dX1_init_93 : decode cX1_init 93 = .ok (.newarray .int, 2) := by decide +kernel
theorem dX1_init_95 : decode cX1_init 95 = .ok (.putfield 49, 3) := by decide +kernel
theorem dX1_init_98 : decode cX1_init 98 = .ok (.aload_n 0, 1) := by decide +kernel
theorem dX1_init_99 : decode cX1_init 99 = .ok (.bipush 12, 2) := by decide +kernel
theorem dX1_init_101 : decode cX1_init 101 = .ok (.newarray .int, 2) := by decide +kernel
theorem dX1_init_103 : decode cX1_init 103 = .ok (.putfield 52, 3) := by decide +kernel
theorem dX1_init_106 : decode cX1_init 106 = .ok (.aload_n 0, 1) := by decide +kernel
theorem dX1_init_107 : decode cX1_init 107 = .ok (.bipush 12, 2) := by decide +kernel
theorem dX1_init_109 : decode cX1_init 109 = .ok (.newarray .int, 2) := by decide +kernel
theorem dX1_init_111 : decode cX1_init 111 = .ok (.putfield 55, 3) := by decide +kernel
theorem dX1_init_114 : decode cX1_init 114 = .ok (.aload_n 0, 1) := by decide +kernel
theorem dX1_init_115 : decode cX1_init 115 = .ok (.getfield 24, 3) := by decide +kernel
theorem dX1_init_118 : decode cX1_init 118 = .ok (.iconst (-1), 1) := by decide +kernel
theorem dX1_init_119 : decode cX1_init 119 = .ok (.invokestatic 58, 3) := by decide +kernel
theorem dX1_init_122 : decode cX1_init 122 = .ok (.aload_n 0, 1) := by decide +kernel
theorem dX1_init_123 : decode cX1_init 123 = .ok (.getfield 34, 3) := by decide +kernel
theorem dX1_init_126 : decode cX1_init 126 = .ok (.iconst 3, 1) := by decide +kernel
theorem dX1_init_127 : decode cX1_init 127 = .ok (.invokestatic 58, 3) := by decide +kernel
theorem dX1_init_130 : decode cX1_init 130 = .ok (.aload_n 0, 1) := by decide +kernel
theorem dX1_init_131 : decode cX1_init 131 = .ok (.getfield 37, 3) := by decide +kernel
theorem dX1_init_134 : decode cX1_init 134 = .ok (.iconst (-1), 1) := by decide +kernel
theorem dX1_init_135 : decode cX1_init 135 = .ok (.invokestatic 58, 3) := by decide +kernel
theorem dX1_init_138 : decode cX1_init 138 = .ok (.aload_n 0, 1) := by decide +kernel
theorem dX1_init_139 : decode cX1_init 139 = .ok (.getfield 49, 3) := by decide +kernel
theorem dX1_init_142 : decode cX1_init 142 = .ok (.iconst (-1), 1) := by decide +kernel
theorem dX1_init_143 : decode cX1_init 143 = .ok (.invokestatic 58, 3) := by decide +kernel
theorem dX1_init_146 : decode cX1_init 146 = .ok (.aload_n 0, 1) := by decide +kernel
theorem dX1_init_147 : decode cX1_init 147 = .ok (.getfield 52, 3) := by decide +kernel
theorem dX1_init_150 : decode cX1_init 150 = .ok (.iconst (-1), 1) := by decide +kernel
theorem dX1_init_151 : decode cX1_init 151 = .ok (.invokestatic 58, 3) := by decide +kernel
theorem dX1_init_154 : decode cX1_init 154 = .ok (.aload_n 0, 1) := by decide +kernel
theorem dX1_init_155 : decode cX1_init 155 = .ok (.getfield 18, 3) := by decide +kernel
theorem dX1_init_158 : decode cX1_init 158 = .ok (.bipush 120, 2) := by decide +kernel
theorem dX1_init_160 : decode cX1_init 160 = .ok (.invokestatic 58, 3) := by decide +kernel
theorem dX1_init_163 : decode cX1_init 163 = .ok (.aload_n 0, 1) := by decide +kernel
theorem dX1_init_164 : decode cX1_init 164 = .ok (.getfield 21, 3) := by decide +kernel
theorem dX1_init_167 : decode cX1_init 167 = .ok (.bipush 60, 2) := by decide +kernel
theorem dX1_init_169 : decode cX1_init 169 = .ok (.invokestatic 58, 3) := by decide +kernel
theorem dX1_init_172 : decode cX1_init 172 = .ok (.return_, 1) := by decide +kernel
abbrev rmX1_init : Room := { frames := 6, cells := 15, slots := 190, locals := 200 }
theorem hdX1_init : yX1_init.cls ≠ "java/lang/invoke/MethodHandle" ∧ yX1_init.cls ≠ "java/lang/invoke/VarHandle" ∧ (parseMethodDescriptor yX1_init.desc).map (fun d => d.parameters.length) = some 0 := by decide +kernel
theorem iX1_init (X : Xc) (h0 sz : Nat) : Met X.l yX1_init (wsM yX1_init cX1_init 1 none) rmX1_init (va_Pc [.ref h0] (PA X [(h0, .inr (1, [.null, .null, .null, .null, .null, .null, .null, .null, .null, .null, .null, .null, .null, .null]))] sz)) (QA X (h0, .inr (1, [.null, .null, .null, .null, .null, .null, .null, .null, .null, .null, .null, .null, .null, .null])) sz (fun w => ∃ q : Nat → Nat, q 0 = h0 ∧ w.Perm (plW X q))) 15 190 (va_A [(h0, .inr (1, [.null, .null, .null, .null, .null, .null, .null, .null, .null, .null, .null, .null, .null, .null]))] sz) := by
  refine ct_of (own := RX1) (lo := [some (.ref h0)]) (by decide) rfl (Nat.le_of_ble_eq_true rfl) rfl (fun K C hr hin hz => ?_)
  refine a_aload_n (pc := 0) (i := 0) C dX1_init_0 rfl rfl ?_
  refine a_obj (pc := 1) C q_3_9 q_1_11 q_1_12 (Nat.le_of_ble_eq_true rfl) (Nat.le_of_ble_eq_true rfl) dX1_init_1 ?_
  refine a_aload_n (pc := 4) (i := 0) C dX1_init_4 rfl rfl ?_
  refine a_iconst (pc := 5) (v := 5) C dX1_init_5 (by decide) ?_
  refine a_newint (pc := 6) (N := 5) (fun q1 => [(h0, .inr (1, [.null, .null, .null, .null, .null, .null, .null, .null, .null, .null, .null, .null, .null, .null])), (q1, .inl (X.ac 0, 5, .inl (fun _ => 0)))]) C q_2_14 (by decide) (by decide) (by decide) (Nat.le_of_ble_eq_true rfl) (Nat.le_of_ble_eq_true rfl) dX1_init_6 (fun _ => rfl) (fun q1 => ?_)
  refine a_putF (pc := 8) (q0 := 0) (j := 0) (ci := 1) (N := 14) (T := TX1) (Cn := RX1) ([(h0, .inr (1, [.ref q1, .null, .null, .null, .null, .null, .null, .null, .null, .null, .null, .null, .null, .null])), (q1, .inl (X.ac 0, 5, .inl (fun _ => 0)))]) C hin rfl rfl inlX1 tyX1_ok nmX1 (Nat.le_of_ble_eq_true rfl) q_3_10 rfl rfl rfl rfl (Nat.le_of_ble_eq_true rfl) dX1_init_8 rfl ?_
  refine a_aload_n (pc := 11) (i := 0) C dX1_init_11 rfl rfl ?_
  refine a_iconst (pc := 12) (v := 5) C dX1_init_12 (by decide) ?_
  refine a_newint (pc := 13) (N := 5) (fun q2 => [(h0, .inr (1, [.ref q1, .null, .null, .null, .null, .null, .null, .null, .null, .null, .null, .null, .null, .null])), (q1, .inl (X.ac 0, 5, .inl (fun _ => 0))), (q2, .inl (X.ac 0, 5, .inl (fun _ => 0)))]) C q_2_14 (by decide) (by decide) (by decide) (Nat.le_of_ble_eq_true rfl) (Nat.le_of_ble_eq_true rfl) dX1_init_13 (fun _ => rfl) (fun q2 => ?_)
  refine a_putF (pc := 15) (q0 := 0) (j := 1) (ci := 1) (N := 14) (T := TX1) (Cn := RX1) ([(h0, .inr (1, [.ref q1, .ref q2, .null, .null, .null, .null, .null, .null, .null, .null, .null, .null, .null, .null])), (q1, .inl (X.ac 0, 5, .inl (fun _ => 0))), (q2, .inl (X.ac 0, 5, .inl (fun _ => 0)))]) C hin rfl rfl inlX1 tyX1_ok nmX1 (Nat.le_of_ble_eq_true rfl) q_3_11 rfl rfl rfl rfl (Nat.le_of_ble_eq_true rfl) dX1_init_15 rfl ?_
  refine a_aload_n (pc := 18) (i := 0) C dX1_init_18 rfl rfl ?_
  refine a_iconst (pc := 19) (v := 5) C dX1_init_19 (by decide) ?_
  refine a_newint (pc := 20) (N := 5) (fun q3 => [(h0, .inr (1, [.ref q1, .ref q2, .null, .null, .null, .null, .null, .null, .null, .null, .null, .null, .null, .null])), (q1, .inl (X.ac 0, 5, .inl (fun _ => 0))), (q2, .inl (X.ac 0, 5, .inl (fun _ => 0))), (q3, .inl (X.ac 0, 5, .inl (fun _ => 0)))]) C q_2_14 (by decide) (by decide) (by decide) (Nat.le_of_ble_eq_true rfl) (Nat.le_of_ble_eq_true rfl) dX1_init_20 (fun _ => rfl) (fun q3 => ?_)
  refine a_putF (pc := 22) (q0 := 0) (j := 2) (ci := 1) (N := 14) (T := TX1) (Cn := RX1) ([(h0, .inr (1, [.ref q1, .ref q2, .ref q3, .null, .null, .null, .null, .null, .null, .null, .null, .null, .null, .null])), (q1, .inl (X.ac 0, 5, .inl (fun _ => 0))), (q2, .inl (X.ac 0, 5, .inl (fun _ => 0))), (q3, .inl (X.ac 0, 5, .inl (fun _ => 0)))]) C hin rfl rfl inlX1 tyX1_ok nmX1 (Nat.le_of_ble_eq_true rfl) q_3_12 rfl rfl rfl rfl (Nat.le_of_ble_eq_true rfl) dX1_init_22 rfl ?_
  refine a_aload_n (pc := 25) (i := 0) C dX1_init_25 rfl rfl ?_
  refine a_iconst (pc := 26) (v := 5) C dX1_init_26 (by decide) ?_
  refine a_newint (pc := 27) (N := 5) (fun q4 => [(h0, .inr (1, [.ref q1, .ref q2, .ref q3, .null, .null, .null, .null, .null, .null, .null, .null, .null, .null, .null])), (q1, .inl (X.ac 0, 5, .inl (fun _ => 0))), (q2, .inl (X.ac 0, 5, .inl (fun _ => 0))), (q3, .inl (X.ac 0, 5, .inl (fun _ => 0))), (q4, .inl (X.ac 0, 5, .inl (fun _ => 0)))]) C q_2_14 (by decide) (by decide) (by decide) (Nat.le_of_ble_eq_true rfl) (Nat.le_of_ble_eq_true rfl) dX1_init_27 (fun _ => rfl) (fun q4 => ?_)
  refine a_putF (pc := 29) (q0 := 0) (j := 3) (ci := 1) (N := 14) (T := TX1) (Cn := RX1) ([(h0, .inr (1, [.ref q1, .ref q2, .ref q3, .ref q4, .null, .null, .null, .null, .null, .null, .null, .null, .null, .null])), (q1, .inl (X.ac 0, 5, .inl (fun _ => 0))), (q2, .inl (X.ac 0, 5, .inl (fun _ => 0))), (q3, .inl (X.ac 0, 5, .inl (fun _ => 0))), (q4, .inl (X.ac 0, 5, .inl (fun _ => 0)))]) C hin rfl rfl inlX1 tyX1_ok nmX1 (Nat.le_of_ble_eq_true rfl) q_3_13 rfl rfl rfl rfl (Nat.le_of_ble_eq_true rfl) dX1_init_29 rfl ?_
  refine a_aload_n (pc := 32) (i := 0) C dX1_init_32 rfl rfl ?_
  refine a_iconst (pc := 33) (v := 5) C dX1_init_33 (by decide) ?_
  refine a_newint (pc := 34) (N := 5) (fun q5 => [(h0, .inr (1, [.ref q1, .ref q2, .ref q3, .ref q4, .null, .null, .null, .null, .null, .null, .null, .null, .null, .null])), (q1, .inl (X.ac 0, 5, .inl (fun _ => 0))), (q2, .inl (X.ac 0, 5, .inl (fun _ => 0))), (q3, .inl (X.ac 0, 5, .inl (fun _ => 0))), (q4, .inl (X.ac 0, 5, .inl (fun _ => 0))), (q5, .inl (X.ac 0, 5, .inl (fun _ => 0)))]) C q_2_14 (by decide) (by decide) (by decide) (Nat.le_of_ble_eq_true rfl) (Nat.le_of_ble_eq_true rfl) dX1_init_34 (fun _ => rfl) (fun q5 => ?_)
  refine a_putF (pc := 36) (q0 := 0) (j := 4) (ci := 1) (N := 14) (T := TX1) (Cn := RX1) ([(h0, .inr (1, [.ref q1, .ref q2, .ref q3, .ref q4, .ref q5, .null, .null, .null, .null, .null, .null, .null, .null, .null])), (q1, .inl (X.ac 0, 5, .inl (fun _ => 0))), (q2, .inl (X.ac 0, 5, .inl (fun _ => 0))), (q3, .inl (X.ac 0, 5, .inl (fun _ => 0))), (q4, .inl (X.ac 0, 5, .inl (fun _ => 0))), (q5, .inl (X.ac 0, 5, .inl (fun _ => 0)))]) C hin rfl rfl inlX1 tyX1_ok nmX1 (Nat.le_of_ble_eq_true rfl) q_3_14 rfl rfl rfl rfl (Nat.le_of_ble_eq_true rfl) dX1_init_36 rfl ?_
  refine a_aload_n (pc := 39) (i := 0) C dX1_init_39 rfl rfl ?_
  refine a_new (pc := 40) (ci := 0) (N := 2) (T := TX0) (Cn := RX0) (fs := [.null, .int 0]) (fun q6 => [(h0, .inr (1, [.ref q1, .ref q2, .ref q3, .ref q4, .ref q5, .null, .null, .null, .null, .null, .null, .null, .null, .null])), (q1, .inl (X.ac 0, 5, .inl (fun _ => 0))), (q2, .inl (X.ac 0, 5, .inl (fun _ => 0))), (q3, .inl (X.ac 0, 5, .inl (fun _ => 0))), (q4, .inl (X.ac 0, 5, .inl (fun _ => 0))), (q5, .inl (X.ac 0, 5, .inl (fun _ => 0))), (q6, .inr (0, [.null, .int 0]))]) C rfl inlX0 tyX0_ok q_3_15 q_2_18 q_2_19 (fun j hj => by rcases (show j = 0 ∨ j = 1 by omega) with rfl | rfl <;> rfl) (Nat.le_of_ble_eq_true rfl) (Nat.le_of_ble_eq_true rfl) dX1_init_40 (fun _ => rfl) (fun q6 => ?_)
  refine a_dup (pc := 43) C dX1_init_43 rfl ?_
  refine a_initN (pc := 44) (W0 := [(h0, .inr (1, [.ref q1, .ref q2, .ref q3, .ref q4, .ref q5, .null, .null, .null, .null, .null, .null, .null, .null, .null])), (q1, .inl (X.ac 0, 5, .inl (fun _ => 0))), (q2, .inl (X.ac 0, 5, .inl (fun _ => 0))), (q3, .inl (X.ac 0, 5, .inl (fun _ => 0))), (q4, .inl (X.ac 0, 5, .inl (fun _ => 0))), (q5, .inl (X.ac 0, 5, .inl (fun _ => 0)))]) C (fun sz => iX0_init X q6 sz) (List.mem_of_getElem? (i := 4) rfl) q_3_2 q_2_19 q_3_3 rfl hdX0_init ⟨Nat.le_of_ble_eq_true rfl, Nat.le_of_ble_eq_true rfl, rfl, rfl, Nat.le_of_ble_eq_true rfl, Nat.le_of_ble_eq_true rfl⟩ (Nat.le_of_ble_eq_true rfl) dX1_init_44 rfl (fun w7 hw8 => ?_)
  obtain ⟨q9, e10, p11⟩ := hw8
  subst e10
  refine a_perm (List.Perm.append_left _ p11) ?_
  refine a_eq (ws' := [(h0, .inr (1, [.ref q1, .ref q2, .ref q3, .ref q4, .ref q5, .null, .null, .null, .null, .null, .null, .null, .null, .null])), (q1, .inl (X.ac 0, 5, .inl (fun _ => 0))), (q2, .inl (X.ac 0, 5, .inl (fun _ => 0))), (q3, .inl (X.ac 0, 5, .inl (fun _ => 0))), (q4, .inl (X.ac 0, 5, .inl (fun _ => 0))), (q5, .inl (X.ac 0, 5, .inl (fun _ => 0))), ((q9 0), .inr (0, [.ref (q9 1), .int 0])), ((q9 1), .inl (X.ac 0, 12, .inl (fun _ => 0)))]) rfl ?_
  refine a_putF (pc := 47) (q0 := 0) (j := 5) (ci := 1) (N := 14) (T := TX1) (Cn := RX1) ([(h0, .inr (1, [.ref q1, .ref q2, .ref q3, .ref q4, .ref q5, .ref (q9 0), .null, .null, .null, .null, .null, .null, .null, .null])), (q1, .inl (X.ac 0, 5, .inl (fun _ => 0))), (q2, .inl (X.ac 0, 5, .inl (fun _ => 0))), (q3, .inl (X.ac 0, 5, .inl (fun _ => 0))), (q4, .inl (X.ac 0, 5, .inl (fun _ => 0))), (q5, .inl (X.ac 0, 5, .inl (fun _ => 0))), ((q9 0), .inr (0, [.ref (q9 1), .int 0])), ((q9 1), .inl (X.ac 0, 12, .inl (fun _ => 0)))]) C hin rfl rfl inlX1 tyX1_ok nmX1 (Nat.le_of_ble_eq_true rfl) q_3_16 rfl rfl rfl rfl (Nat.le_of_ble_eq_true rfl) dX1_init_47 rfl ?_
  refine a_aload_n (pc := 50) (i := 0) C dX1_init_50 rfl rfl ?_
  refine a_bipush (pc := 51) (v := 23) C dX1_init_51 (by decide) ?_
  refine a_newint (pc := 53) (N := 23) (fun q12 => [(h0, .inr (1, [.ref q1, .ref q2, .ref q3, .ref q4, .ref q5, .ref (q9 0), .null, .null, .null, .null, .null, .null, .null, .null])), (q1, .inl (X.ac 0, 5, .inl (fun _ => 0))), (q2, .inl (X.ac 0, 5, .inl (fun _ => 0))), (q3, .inl (X.ac 0, 5, .inl (fun _ => 0))), (q4, .inl (X.ac 0, 5, .inl (fun _ => 0))), (q5, .inl (X.ac 0, 5, .inl (fun _ => 0))), ((q9 0), .inr (0, [.ref (q9 1), .int 0])), ((q9 1), .inl (X.ac 0, 12, .inl (fun _ => 0))), (q12, .inl (X.ac 0, 23, .inl (fun _ => 0)))]) C q_2_14 (by decide) (by decide) (by decide) (Nat.le_of_ble_eq_true rfl) (Nat.le_of_ble_eq_true rfl) dX1_init_53 (fun _ => rfl) (fun q12 => ?_)
  refine a_putF (pc := 55) (q0 := 0) (j := 6) (ci := 1) (N := 14) (T := TX1) (Cn := RX1) ([(h0, .inr (1, [.ref q1, .ref q2, .ref q3, .ref q4, .ref q5, .ref (q9 0), .ref q12, .null, .null, .null, .null, .null, .null, .null])), (q1, .inl (X.ac 0, 5, .inl (fun _ => 0))), (q2, .inl (X.ac 0, 5, .inl (fun _ => 0))), (q3, .inl (X.ac 0, 5, .inl (fun _ => 0))), (q4, .inl (X.ac 0, 5, .inl (fun _ => 0))), (q5, .inl (X.ac 0, 5, .inl (fun _ => 0))), ((q9 0), .inr (0, [.ref (q9 1), .int 0])), ((q9 1), .inl (X.ac 0, 12, .inl (fun _ => 0))), (q12, .inl (X.ac 0, 23, .inl (fun _ => 0)))]) C hin rfl rfl inlX1 tyX1_ok nmX1 (Nat.le_of_ble_eq_true rfl) q_3_17 rfl rfl rfl rfl (Nat.le_of_ble_eq_true rfl) dX1_init_55 rfl ?_
  refine a_aload_n (pc := 58) (i := 0) C dX1_init_58 rfl rfl ?_
  refine a_bipush (pc := 59) (v := 23) C dX1_init_59 (by decide) ?_
  refine a_newint (pc := 61) (N := 23) (fun q13 => [(h0, .inr (1, [.ref q1, .ref q2, .ref q3, .ref q4, .ref q5, .ref (q9 0), .ref q12, .null, .null, .null, .null, .null, .null, .null])), (q1, .inl (X.ac 0, 5, .inl (fun _ => 0))), (q2, .inl (X.ac 0, 5, .inl (fun _ => 0))), (q3, .inl (X.ac 0, 5, .inl (fun _ => 0))), (q4, .inl (X.ac 0, 5, .inl (fun _ => 0))), (q5, .inl (X.ac 0, 5, .inl (fun _ => 0))), ((q9 0), .inr (0, [.ref (q9 1), .int 0])), ((q9 1), .inl (X.ac 0, 12, .inl (fun _ => 0))), (q12, .inl (X.ac 0, 23, .inl (fun _ => 0))), (q13, .inl (X.ac 0, 23, .inl (fun _ => 0)))]) C q_2_14 (by decide) (by decide) (by decide) (Nat.le_of_ble_eq_true rfl) (Nat.le_of_ble_eq_true rfl) dX1_init_61 (fun _ => rfl) (fun q13 => ?_)
  refine a_putF (pc := 63) (q0 := 0) (j := 7) (ci := 1) (N := 14) (T := TX1) (Cn := RX1) ([(h0, .inr (1, [.ref q1, .ref q2, .ref q3, .ref q4, .ref q5, .ref (q9 0), .ref q12, .ref q13, .null, .null, .null, .null, .null, .null])), (q1, .inl (X.ac 0, 5, .inl (fun _ => 0))), (q2, .inl (X.ac 0, 5, .inl (fun _ => 0))), (q3, .inl (X.ac 0, 5, .inl (fun _ => 0))), (q4, .inl (X.ac 0, 5, .inl (fun _ => 0))), (q5, .inl (X.ac 0, 5, .inl (fun _ => 0))), ((q9 0), .inr (0, [.ref (q9 1), .int 0])), ((q9 1), .inl (X.ac 0, 12, .inl (fun _ => 0))), (q12, .inl (X.ac 0, 23, .inl (fun _ => 0))), (q13, .inl (X.ac 0, 23, .inl (fun _ => 0)))]) C hin rfl rfl inlX1 tyX1_ok nmX1 (Nat.le_of_ble_eq_true rfl) q_3_18 rfl rfl rfl rfl (Nat.le_of_ble_eq_true rfl) dX1_init_63 rfl ?_
  refine a_aload_n (pc := 66) (i := 0) C dX1_init_66 rfl rfl ?_
  refine a_bipush (pc := 67) (v := 23) C dX1_init_67 (by decide) ?_
  refine a_newint (pc := 69) (N := 23) (fun q14 => [(h0, .inr (1, [.ref q1, .ref q2, .ref q3, .ref q4, .ref q5, .ref (q9 0), .ref q12, .ref q13, .null, .null, .null, .null, .null, .null])), (q1, .inl (X.ac 0, 5, .inl (fun _ => 0))), (q2, .inl (X.ac 0, 5, .inl (fun _ => 0))), (q3, .inl (X.ac 0, 5, .inl (fun _ => 0))), (q4, .inl (X.ac 0, 5, .inl (fun _ => 0))), (q5, .inl (X.ac 0, 5, .inl (fun _ => 0))), ((q9 0), .inr (0, [.ref (q9 1), .int 0])), ((q9 1), .inl (X.ac 0, 12, .inl (fun _ => 0))), (q12, .inl (X.ac 0, 23, .inl (fun _ => 0))), (q13, .inl (X.ac 0, 23, .inl (fun _ => 0))), (q14, .inl (X.ac 0, 23, .inl (fun _ => 0)))]) C q_2_14 (by decide) (by decide) (by decide) (Nat.le_of_ble_eq_true rfl) (Nat.le_of_ble_eq_true rfl) dX1_init_69 (fun _ => rfl) (fun q14 => ?_)
  refine a_putF (pc := 71) (q0 := 0) (j := 8) (ci := 1) (N := 14) (T := TX1) (Cn := RX1) ([(h0, .inr (1, [.ref q1, .ref q2, .ref q3, .ref q4, .ref q5, .ref (q9 0), .ref q12, .ref q13, .ref q14, .null, .null, .null, .null, .null])), (q1, .inl (X.ac 0, 5, .inl (fun _ => 0))), (q2, .inl (X.ac 0, 5, .inl (fun _ => 0))), (q3, .inl (X.ac 0, 5, .inl (fun _ => 0))), (q4, .inl (X.ac 0, 5, .inl (fun _ => 0))), (q5, .inl (X.ac 0, 5, .inl (fun _ => 0))), ((q9 0), .inr (0, [.ref (q9 1), .int 0])), ((q9 1), .inl (X.ac 0, 12, .inl (fun _ => 0))), (q12, .inl (X.ac 0, 23, .inl (fun _ => 0))), (q13, .inl (X.ac 0, 23, .inl (fun _ => 0))), (q14, .inl (X.ac 0, 23, .inl (fun _ => 0)))]) C hin rfl rfl inlX1 tyX1_ok nmX1 (Nat.le_of_ble_eq_true rfl) q_3_19 rfl rfl rfl rfl (Nat.le_of_ble_eq_true rfl) dX1_init_71 rfl ?_
  refine a_aload_n (pc := 74) (i := 0) C dX1_init_74 rfl rfl ?_
  refine a_bipush (pc := 75) (v := 23) C dX1_init_75 (by decide) ?_
  refine a_newint (pc := 77) (N := 23) (fun q15 => [(h0, .inr (1, [.ref q1, .ref q2, .ref q3, .ref q4, .ref q5, .ref (q9 0), .ref q12, .ref q13, .ref q14, .null, .null, .null, .null, .null])), (q1, .inl (X.ac 0, 5, .inl (fun _ => 0))), (q2, .inl (X.ac 0, 5, .inl (fun _ => 0))), (q3, .inl (X.ac 0, 5, .inl (fun _ => 0))), (q4, .inl (X.ac 0, 5, .inl (fun _ => 0))), (q5, .inl (X.ac 0, 5, .inl (fun _ => 0))), ((q9 0), .inr (0, [.ref (q9 1), .int 0])), ((q9 1), .inl (X.ac 0, 12, .inl (fun _ => 0))), (q12, .inl (X.ac 0, 23, .inl (fun _ => 0))), (q13, .inl (X.ac 0, 23, .inl (fun _ => 0))), (q14, .inl (X.ac 0, 23, .inl (fun _ => 0))), (q15, .inl (X.ac 0, 23, .inl (fun _ => 0)))]) C q_2_14 (by decide) (by decide) (by decide) (Nat.le_of_ble_eq_true rfl) (Nat.le_of_ble_eq_true rfl) dX1_init_77 (fun _ => rfl) (fun q15 => ?_)
  refine a_putF (pc := 79) (q0 := 0) (j := 9) (ci := 1) (N := 14) (T := TX1) (Cn := RX1) ([(h0, .inr (1, [.ref q1, .ref q2, .ref q3, .ref q4, .ref q5, .ref (q9 0), .ref q12, .ref q13, .ref q14, .ref q15, .null, .null, .null, .null])), (q1, .inl (X.ac 0, 5, .inl (fun _ => 0))), (q2, .inl (X.ac 0, 5, .inl (fun _ => 0))), (q3, .inl (X.ac 0, 5, .inl (fun _ => 0))), (q4, .inl (X.ac 0, 5, .inl (fun _ => 0))), (q5, .inl (X.ac 0, 5, .inl (fun _ => 0))), ((q9 0), .inr (0, [.ref (q9 1), .int 0])), ((q9 1), .inl (X.ac 0, 12, .inl (fun _ => 0))), (q12, .inl (X.ac 0, 23, .inl (fun _ => 0))), (q13, .inl (X.ac 0, 23, .inl (fun _ => 0))), (q14, .inl (X.ac 0, 23, .inl (fun _ => 0))), (q15, .inl (X.ac 0, 23, .inl (fun _ => 0)))]) C hin rfl rfl inlX1 tyX1_ok nmX1 (Nat.le_of_ble_eq_true rfl) q_3_20 rfl rfl rfl rfl (Nat.le_of_ble_eq_true rfl) dX1_init_79 rfl ?_
  refine a_aload_n (pc := 82) (i := 0) C dX1_init_82 rfl rfl ?_
  refine a_bipush (pc := 83) (v := 23) C dX1_init_83 (by decide) ?_
  refine a_newint (pc := 85) (N := 23) (fun q16 => [(h0, .inr (1, [.ref q1, .ref q2, .ref q3, .ref q4, .ref q5, .ref (q9 0), .ref q12, .ref q13, .ref q14, .ref q15, .null, .null, .null, .null])), (q1, .inl (X.ac 0, 5, .inl (fun _ => 0))), (q2, .inl (X.ac 0, 5, .inl (fun _ => 0))), (q3, .inl (X.ac 0, 5, .inl (fun _ => 0))), (q4, .inl (X.ac 0, 5, .inl (fun _ => 0))), (q5, .inl (X.ac 0, 5, .inl (fun _ => 0))), ((q9 0), .inr (0, [.ref (q9 1), .int 0])), ((q9 1), .inl (X.ac 0, 12, .inl (fun _ => 0))), (q12, .inl (X.ac 0, 23, .inl (fun _ => 0))), (q13, .inl (X.ac 0, 23, .inl (fun _ => 0))), (q14, .inl (X.ac 0, 23, .inl (fun _ => 0))), (q15, .inl (X.ac 0, 23, .inl (fun _ => 0))), (q16, .inl (X.ac 0, 23, .inl (fun _ => 0)))]) C q_2_14 (by decide) (by decide) (by decide) (Nat.le_of_ble_eq_true rfl) (Nat.le_of_ble_eq_true rfl) dX1_init_85 (fun _ => rfl) (fun q16 => ?_)
  refine a_putF (pc := 87) (q0 := 0) (j := 10) (ci := 1) (N := 14) (T := TX1) (Cn := RX1) ([(h0, .inr (1, [.ref q1, .ref q2, .ref q3, .ref q4, .ref q5, .ref (q9 0), .ref q12, .ref q13, .ref q14, .ref q15, .ref q16, .null, .null, .null])), (q1, .inl (X.ac 0, 5, .inl (fun _ => 0))), (q2, .inl (X.ac 0, 5, .inl (fun _ => 0))), (q3, .inl (X.ac 0, 5, .inl (fun _ => 0))), (q4, .inl (X.ac 0, 5, .inl (fun _ => 0))), (q5, .inl (X.ac 0, 5, .inl (fun _ => 0))), ((q9 0), .inr (0, [.ref (q9 1), .int 0])), ((q9 1), .inl (X.ac 0, 12, .inl (fun _ => 0))), (q12, .inl (X.ac 0, 23, .inl (fun _ => 0))), (q13, .inl (X.ac 0, 23, .inl (fun _ => 0))), (q14, .inl (X.ac 0, 23, .inl (fun _ => 0))), (q15, .inl (X.ac 0, 23, .inl (fun _ => 0))), (q16, .inl (X.ac 0, 23, .inl (fun _ => 0)))]) C hin rfl rfl inlX1 tyX1_ok nmX1 (Nat.le_of_ble_eq_true rfl) q_3_21 rfl rfl rfl rfl (Nat.le_of_ble_eq_true rfl) dX1_init_87 rfl ?_
  refine a_aload_n (pc := 90) (i := 0) C dX1_init_90 rfl rfl ?_
  refine a_bipush (pc := 91) (v := 12) C dX1_init_91 (by decide) ?_
  refine a_newint (pc := 93) (N := 12) (fun q17 => [(h0, .inr (1, [.ref q1, .ref q2, .ref q3, .ref q4, .ref q5, .ref (q9 0), .ref q12, .ref q13, .ref q14, .ref q15, .ref q16, .null, .null, .null])), (q1, .inl (X.ac 0, 5, .inl (fun _ => 0))), (q2, .inl (X.ac 0, 5, .inl (fun _ => 0))), (q3, .inl (X.ac 0, 5, .inl (fun _ => 0))), (q4, .inl (X.ac 0, 5, .inl (fun _ => 0))), (q5, .inl (X.ac 0, 5, .inl (fun _ => 0))), ((q9 0), .inr (0, [.ref (q9 1), .int 0])), ((q9 1), .inl (X.ac 0, 12, .inl (fun _ => 0))), (q12, .inl (X.ac 0, 23, .inl (fun _ => 0))), (q13, .inl (X.ac 0, 23, .inl (fun _ => 0))), (q14, .inl (X.ac 0, 23, .inl (fun _ => 0))), (q15, .inl (X.ac 0, 23, .inl (fun _ => 0))), (q16, .inl (X.ac 0, 23, .inl (fun _ => 0))), (q17, .inl (X.ac 0, 12, .inl (fun _ => 0)))]) C q_2_14 (by decide) (by decide) (by decide) (Nat.le_of_ble_eq_true rfl) (Nat.le_of_ble_eq_true rfl) dX1_init_93 (fun _ => rfl) (fun q17 => ?_)
  refine a_putF (pc := 95) (q0 := 0) (j := 11) (ci := 1) (N := 14) (T := TX1) (Cn := RX1) ([(h0, .inr (1, [.ref q1, .ref q2, .ref q3, .ref q4, .ref q5, .ref (q9 0), .ref q12, .ref q13, .ref q14, .ref q15, .ref q16, .ref q17, .null, .null])), (q1, .inl (X.ac 0, 5, .inl (fun _ => 0))), (q2, .inl (X.ac 0, 5, .inl (fun _ => 0))), (q3, .inl (X.ac 0, 5, .inl (fun _ => 0))), (q4, .inl (X.ac 0, 5, .inl (fun _ => 0))), (q5, .inl (X.ac 0, 5, .inl (fun _ => 0))), ((q9 0), .inr (0, [.ref (q9 1), .int 0])), ((q9 1), .inl (X.ac 0, 12, .inl (fun _ => 0))), (q12, .inl (X.ac 0, 23, .inl (fun _ => 0))), (q13, .inl (X.ac 0, 23, .inl (fun _ => 0))), (q14, .inl (X.ac 0, 23, .inl (fun _ => 0))), (q15, .inl (X.ac 0, 23, .inl (fun _ => 0))), (q16, .inl (X.ac 0, 23, .inl (fun _ => 0))), (q17, .inl (X.ac 0, 12, .inl (fun _ => 0)))]) C hin rfl rfl inlX1 tyX1_ok nmX1 (Nat.le_of_ble_eq_true rfl) q_3_22 rfl rfl rfl rfl (Nat.le_of_ble_eq_true rfl) dX1_init_95 rfl ?_
  refine a_aload_n (pc := 98) (i := 0) C dX1_init_98 rfl rfl ?_
  refine a_bipush (pc := 99) (v := 12) C dX1_init_99 (by decide) ?_
  refine a_newint (pc := 101) (N := 12) (fun q18 => [(h0, .inr (1, [.ref q1, .ref q2, .ref q3, .ref q4, .ref q5, .ref (q9 0), .ref q12, .ref q13, .ref q14, .ref q15, .ref q16, .ref q17, .null, .null])), (q1, .inl (X.ac 0, 5, .inl (fun _ => 0))), (q2, .inl (X.ac 0, 5, .inl (fun _ => 0))), (q3, .inl (X.ac 0, 5, .inl (fun _ => 0))), (q4, .inl (X.ac 0, 5, .inl (fun _ => 0))), (q5, .inl (X.ac 0, 5, .inl (fun _ => 0))), ((q9 0), .inr (0, [.ref (q9 1), .int 0])), ((q9 1), .inl (X.ac 0, 12, .inl (fun _ => 0))), (q12, .inl (X.ac 0, 23, .inl (fun _ => 0))), (q13, .inl (X.ac 0, 23, .inl (fun _ => 0))), (q14, .inl (X.ac 0, 23, .inl (fun _ => 0))), (q15, .inl (X.ac 0, 23, .inl (fun _ => 0))), (q16, .inl (X.ac 0, 23, .inl (fun _ => 0))), (q17, .inl (X.ac 0, 12, .inl (fun _ => 0))), (q18, .inl (X.ac 0, 12, .inl (fun _ => 0)))]) C q_2_14 (by decide) (by decide) (by decide) (Nat.le_of_ble_eq_true rfl) (Nat.le_of_ble_eq_true rfl) dX1_init_101 (fun _ => rfl) (fun q18 => ?_)
  refine a_putF (pc := 103) (q0 := 0) (j := 12) (ci := 1) (N := 14) (T := TX1) (Cn := RX1) ([(h0, .inr (1, [.ref q1, .ref q2, .ref q3, .ref q4, .ref q5, .ref (q9 0), .ref q12, .ref q13, .ref q14, .ref q15, .ref q16, .ref q17, .ref q18, .null])), (q1, .inl (X.ac 0, 5, .inl (fun _ => 0))), (q2, .inl (X.ac 0, 5, .inl (fun _ => 0))), (q3, .inl (X.ac 0, 5, .inl (fun _ => 0))), (q4, .inl (X.ac 0, 5, .inl (fun _ => 0))), (q5, .inl (X.ac 0, 5, .inl (fun _ => 0))), ((q9 0), .inr (0, [.ref (q9 1), .int 0])), ((q9 1), .inl (X.ac 0, 12, .inl (fun _ => 0))), (q12, .inl (X.ac 0, 23, .inl (fun _ => 0))), (q13, .inl (X.ac 0, 23, .inl (fun _ => 0))), (q14, .inl (X.ac 0, 23, .inl (fun _ => 0))), (q15, .inl (X.ac 0, 23, .inl (fun _ => 0))), (q16, .inl (X.ac 0, 23, .inl (fun _ => 0))), (q17, .inl (X.ac 0, 12, .inl (fun _ => 0))), (q18, .inl (X.ac 0, 12, .inl (fun _ => 0)))]) C hin rfl rfl inlX1 tyX1_ok nmX1 (Nat.le_of_ble_eq_true rfl) q_3_23 rfl rfl rfl rfl (Nat.le_of_ble_eq_true rfl) dX1_init_103 rfl ?_
  refine a_aload_n (pc := 106) (i := 0) C dX1_init_106 rfl rfl ?_
  refine a_bipush (pc := 107) (v := 12) C dX1_init_107 (by decide) ?_
  refine a_newint (pc := 109) (N := 12) (fun q19 => [(h0, .inr (1, [.ref q1, .ref q2, .ref q3, .ref q4, .ref q5, .ref (q9 0), .ref q12, .ref q13, .ref q14, .ref q15, .ref q16, .ref q17, .ref q18, .null])), (q1, .inl (X.ac 0, 5, .inl (fun _ => 0))), (q2, .inl (X.ac 0, 5, .inl (fun _ => 0))), (q3, .inl (X.ac 0, 5, .inl (fun _ => 0))), (q4, .inl (X.ac 0, 5, .inl (fun _ => 0))), (q5, .inl (X.ac 0, 5, .inl (fun _ => 0))), ((q9 0), .inr (0, [.ref (q9 1), .int 0])), ((q9 1), .inl (X.ac 0, 12, .inl (fun _ => 0))), (q12, .inl (X.ac 0, 23, .inl (fun _ => 0))), (q13, .inl (X.ac 0, 23, .inl (fun _ => 0))), (q14, .inl (X.ac 0, 23, .inl (fun _ => 0))), (q15, .inl (X.ac 0, 23, .inl (fun _ => 0))), (q16, .inl (X.ac 0, 23, .inl (fun _ => 0))), (q17, .inl (X.ac 0, 12, .inl (fun _ => 0))), (q18, .inl (X.ac 0, 12, .inl (fun _ => 0))), (q19, .inl (X.ac 0, 12, .inl (fun _ => 0)))]) C q_2_14 (by decide) (by decide) (by decide) (Nat.le_of_ble_eq_true rfl) (Nat.le_of_ble_eq_true rfl) dX1_init_109 (fun _ => rfl) (fun q19 => ?_)
  refine a_putF (pc := 111) (q0 := 0) (j := 13) (ci := 1) (N := 14) (T := TX1) (Cn := RX1) ([(h0, .inr (1, [.ref q1, .ref q2, .ref q3, .ref q4, .ref q5, .ref (q9 0), .ref q12, .ref q13, .ref q14, .ref q15, .ref q16, .ref q17, .ref q18, .ref q19])), (q1, .inl (X.ac 0, 5, .inl (fun _ => 0))), (q2, .inl (X.ac 0, 5, .inl (fun _ => 0))), (q3, .inl (X.ac 0, 5, .inl (fun _ => 0))), (q4, .inl (X.ac 0, 5, .inl (fun _ => 0))), (q5, .inl (X.ac 0, 5, .inl (fun _ => 0))), ((q9 0), .inr (0, [.ref (q9 1), .int 0])), ((q9 1), .inl (X.ac 0, 12, .inl (fun _ => 0))), (q12, .inl (X.ac 0, 23, .inl (fun _ => 0))), (q13, .inl (X.ac 0, 23, .inl (fun _ => 0))), (q14, .inl (X.ac 0, 23, .inl (fun _ => 0))), (q15, .inl (X.ac 0, 23, .inl (fun _ => 0))), (q16, .inl (X.ac 0, 23, .inl (fun _ => 0))), (q17, .inl (X.ac 0, 12, .inl (fun _ => 0))), (q18, .inl (X.ac 0, 12, .inl (fun _ => 0))), (q19, .inl (X.ac 0, 12, .inl (fun _ => 0)))]) C hin rfl rfl inlX1 tyX1_ok nmX1 (Nat.le_of_ble_eq_true rfl) q_4_0 rfl rfl rfl rfl (Nat.le_of_ble_eq_true rfl) dX1_init_111 rfl ?_
  refine a_aload_n (pc := 114) (i := 0) C dX1_init_114 rfl rfl ?_
  refine a_getr (pc := 115) (q0 := 0) (j := 4) (ci := 1) (N := 14) (T := TX1) (Cn := RX1) C rfl rfl inlX1 (Nat.le_of_ble_eq_true rfl) q_3_14 rfl dX1_init_115 ?_
  refine a_iconst (pc := 118) (v := (-1)) C dX1_init_118 (by decide) ?_
  refine a_fill (pc := 119) (q0 := 5) ([(h0, .inr (1, [.ref q1, .ref q2, .ref q3, .ref q4, .ref q5, .ref (q9 0), .ref q12, .ref q13, .ref q14, .ref q15, .ref q16, .ref q17, .ref q18, .ref q19])), (q1, .inl (X.ac 0, 5, .inl (fun _ => 0))), (q2, .inl (X.ac 0, 5, .inl (fun _ => 0))), (q3, .inl (X.ac 0, 5, .inl (fun _ => 0))), (q4, .inl (X.ac 0, 5, .inl (fun _ => 0))), (q5, .inl (X.ac 0, 5, .inl (fun _ => (-1)))), ((q9 0), .inr (0, [.ref (q9 1), .int 0])), ((q9 1), .inl (X.ac 0, 12, .inl (fun _ => 0))), (q12, .inl (X.ac 0, 23, .inl (fun _ => 0))), (q13, .inl (X.ac 0, 23, .inl (fun _ => 0))), (q14, .inl (X.ac 0, 23, .inl (fun _ => 0))), (q15, .inl (X.ac 0, 23, .inl (fun _ => 0))), (q16, .inl (X.ac 0, 23, .inl (fun _ => 0))), (q17, .inl (X.ac 0, 12, .inl (fun _ => 0))), (q18, .inl (X.ac 0, 12, .inl (fun _ => 0))), (q19, .inl (X.ac 0, 12, .inl (fun _ => 0)))]) C rfl (by decide) q_4_1 q_4_2 q_4_3 q_4_4 ⟨Nat.le_of_ble_eq_true rfl, Nat.le_of_ble_eq_true rfl, rfl, rfl, Nat.le_of_ble_eq_true rfl, Nat.le_of_ble_eq_true rfl⟩ (Nat.le_of_ble_eq_true rfl) dX1_init_119 rfl ?_
  refine a_aload_n (pc := 122) (i := 0) C dX1_init_122 rfl rfl ?_
  refine a_getr (pc := 123) (q0 := 0) (j := 6) (ci := 1) (N := 14) (T := TX1) (Cn := RX1) C rfl rfl inlX1 (Nat.le_of_ble_eq_true rfl) q_3_17 rfl dX1_init_123 ?_
  refine a_iconst (pc := 126) (v := 3) C dX1_init_126 (by decide) ?_
  refine a_fill (pc := 127) (q0 := 8) ([(h0, .inr (1, [.ref q1, .ref q2, .ref q3, .ref q4, .ref q5, .ref (q9 0), .ref q12, .ref q13, .ref q14, .ref q15, .ref q16, .ref q17, .ref q18, .ref q19])), (q1, .inl (X.ac 0, 5, .inl (fun _ => 0))), (q2, .inl (X.ac 0, 5, .inl (fun _ => 0))), (q3, .inl (X.ac 0, 5, .inl (fun _ => 0))), (q4, .inl (X.ac 0, 5, .inl (fun _ => 0))), (q5, .inl (X.ac 0, 5, .inl (fun _ => (-1)))), ((q9 0), .inr (0, [.ref (q9 1), .int 0])), ((q9 1), .inl (X.ac 0, 12, .inl (fun _ => 0))), (q12, .inl (X.ac 0, 23, .inl (fun _ => 3))), (q13, .inl (X.ac 0, 23, .inl (fun _ => 0))), (q14, .inl (X.ac 0, 23, .inl (fun _ => 0))), (q15, .inl (X.ac 0, 23, .inl (fun _ => 0))), (q16, .inl (X.ac 0, 23, .inl (fun _ => 0))), (q17, .inl (X.ac 0, 12, .inl (fun _ => 0))), (q18, .inl (X.ac 0, 12, .inl (fun _ => 0))), (q19, .inl (X.ac 0, 12, .inl (fun _ => 0)))]) C rfl (by decide) q_4_1 q_4_2 q_4_3 q_4_4 ⟨Nat.le_of_ble_eq_true rfl, Nat.le_of_ble_eq_true rfl, rfl, rfl, Nat.le_of_ble_eq_true rfl, Nat.le_of_ble_eq_true rfl⟩ (Nat.le_of_ble_eq_true rfl) dX1_init_127 rfl ?_
  refine a_aload_n (pc := 130) (i := 0) C dX1_init_130 rfl rfl ?_
  refine a_getr (pc := 131) (q0 := 0) (j := 7) (ci := 1) (N := 14) (T := TX1) (Cn := RX1) C rfl rfl inlX1 (Nat.le_of_ble_eq_true rfl) q_3_18 rfl dX1_init_131 ?_
  refine a_iconst (pc := 134) (v := (-1)) C dX1_init_134 (by decide) ?_
  refine a_fill (pc := 135) (q0 := 9) ([(h0, .inr (1, [.ref q1, .ref q2, .ref q3, .ref q4, .ref q5, .ref (q9 0), .ref q12, .ref q13, .ref q14, .ref q15, .ref q16, .ref q17, .ref q18, .ref q19])), (q1, .inl (X.ac 0, 5, .inl (fun _ => 0))), (q2, .inl (X.ac 0, 5, .inl (fun _ => 0))), (q3, .inl (X.ac 0, 5, .inl (fun _ => 0))), (q4, .inl (X.ac 0, 5, .inl (fun _ => 0))), (q5, .inl (X.ac 0, 5, .inl (fun _ => (-1)))), ((q9 0), .inr (0, [.ref (q9 1), .int 0])), ((q9 1), .inl (X.ac 0, 12, .inl (fun _ => 0))), (q12, .inl (X.ac 0, 23, .inl (fun _ => 3))), (q13, .inl (X.ac 0, 23, .inl (fun _ => (-1)))), (q14, .inl (X.ac 0, 23, .inl (fun _ => 0))), (q15, .inl (X.ac 0, 23, .inl (fun _ => 0))), (q16, .inl (X.ac 0, 23, .inl (fun _ => 0))), (q17, .inl (X.ac 0, 12, .inl (fun _ => 0))), (q18, .inl (X.ac 0, 12, .inl (fun _ => 0))), (q19, .inl (X.ac 0, 12, .inl (fun _ => 0)))]) C rfl (by decide) q_4_1 q_4_2 q_4_3 q_4_4 ⟨Nat.le_of_ble_eq_true rfl, Nat.le_of_ble_eq_true rfl, rfl, rfl, Nat.le_of_ble_eq_true rfl, Nat.le_of_ble_eq_true rfl⟩ (Nat.le_of_ble_eq_true rfl) dX1_init_135 rfl ?_
  refine a_aload_n (pc := 138) (i := 0) C dX1_init_138 rfl rfl ?_
  refine a_getr (pc := 139) (q0 := 0) (j := 11) (ci := 1) (N := 14) (T := TX1) (Cn := RX1) C rfl rfl inlX1 (Nat.le_of_ble_eq_true rfl) q_3_22 rfl dX1_init_139 ?_
  refine a_iconst (pc := 142) (v := (-1)) C dX1_init_142 (by decide) ?_
  refine a_fill (pc := 143) (q0 := 13) ([(h0, .inr (1, [.ref q1, .ref q2, .ref q3, .ref q4, .ref q5, .ref (q9 0), .ref q12, .ref q13, .ref q14, .ref q15, .ref q16, .ref q17, .ref q18, .ref q19])), (q1, .inl (X.ac 0, 5, .inl (fun _ => 0))), (q2, .inl (X.ac 0, 5, .inl (fun _ => 0))), (q3, .inl (X.ac 0, 5, .inl (fun _ => 0))), (q4, .inl (X.ac 0, 5, .inl (fun _ => 0))), (q5, .inl (X.ac 0, 5, .inl (fun _ => (-1)))), ((q9 0), .inr (0, [.ref (q9 1), .int 0])), ((q9 1), .inl (X.ac 0, 12, .inl (fun _ => 0))), (q12, .inl (X.ac 0, 23, .inl (fun _ => 3))), (q13, .inl (X.ac 0, 23, .inl (fun _ => (-1)))), (q14, .inl (X.ac 0, 23, .inl (fun _ => 0))), (q15, .inl (X.ac 0, 23, .inl (fun _ => 0))), (q16, .inl (X.ac 0, 23, .inl (fun _ => 0))), (q17, .inl (X.ac 0, 12, .inl (fun _ => (-1)))), (q18, .inl (X.ac 0, 12, .inl (fun _ => 0))), (q19, .inl (X.ac 0, 12, .inl (fun _ => 0)))]) C rfl (by decide) q_4_1 q_4_2 q_4_3 q_4_4 ⟨Nat.le_of_ble_eq_true rfl, Nat.le_of_ble_eq_true rfl, rfl, rfl, Nat.le_of_ble_eq_true rfl, Nat.le_of_ble_eq_true rfl⟩ (Nat.le_of_ble_eq_true rfl) dX1_init_143 rfl ?_
  refine a_aload_n (pc := 146) (i := 0) C dX1_init_146 rfl rfl ?_
  refine a_getr (pc := 147) (q0 := 0) (j := 12) (ci := 1) (N := 14) (T := TX1) (Cn := RX1) C rfl rfl inlX1 (Nat.le_of_ble_eq_true rfl) q_3_23 rfl dX1_init_147 ?_
  refine a_iconst (pc := 150) (v := (-1)) C dX1_init_150 (by decide) ?_
  refine a_fill (pc := 151) (q0 := 14) ([(h0, .inr (1, [.ref q1, .ref q2, .ref q3, .ref q4, .ref q5, .ref (q9 0), .ref q12, .ref q13, .ref q14, .ref q15, .ref q16, .ref q17, .ref q18, .ref q19])), (q1, .inl (X.ac 0, 5, .inl (fun _ => 0))), (q2, .inl (X.ac 0, 5, .inl (fun _ => 0))), (q3, .inl (X.ac 0, 5, .inl (fun _ => 0))), (q4, .inl (X.ac 0, 5, .inl (fun _ => 0))), (q5, .inl (X.ac 0, 5, .inl (fun _ => (-1)))), ((q9 0), .inr (0, [.ref (q9 1), .int 0])), ((q9 1), .inl (X.ac 0, 12, .inl (fun _ => 0))), (q12, .inl (X.ac 0, 23, .inl (fun _ => 3))), (q13, .inl (X.ac 0, 23, .inl (fun _ => (-1)))), (q14, .inl (X.ac 0, 23, .inl (fun _ => 0))), (q15, .inl (X.ac 0, 23, .inl (fun _ => 0))), (q16, .inl (X.ac 0, 23, .inl (fun _ => 0))), (q17, .inl (X.ac 0, 12, .inl (fun _ => (-1)))), (q18, .inl (X.ac 0, 12, .inl (fun _ => (-1)))), (q19, .inl (X.ac 0, 12, .inl (fun _ => 0)))]) C rfl (by decide) q_4_1 q_4_2 q_4_3 q_4_4 ⟨Nat.le_of_ble_eq_true rfl, Nat.le_of_ble_eq_true rfl, rfl, rfl, Nat.le_of_ble_eq_true rfl, Nat.le_of_ble_eq_true rfl⟩ (Nat.le_of_ble_eq_true rfl) dX1_init_151 rfl ?_
  refine a_aload_n (pc := 154) (i := 0) C dX1_init_154 rfl rfl ?_
  refine a_getr (pc := 155) (q0 := 0) (j := 2) (ci := 1) (N := 14) (T := TX1) (Cn := RX1) C rfl rfl inlX1 (Nat.le_of_ble_eq_true rfl) q_3_12 rfl dX1_init_155 ?_
  refine a_bipush (pc := 158) (v := 120) C dX1_init_158 (by decide) ?_
  refine a_fill (pc := 160) (q0 := 3) ([(h0, .inr (1, [.ref q1, .ref q2, .ref q3, .ref q4, .ref q5, .ref (q9 0), .ref q12, .ref q13, .ref q14, .ref q15, .ref q16, .ref q17, .ref q18, .ref q19])), (q1, .inl (X.ac 0, 5, .inl (fun _ => 0))), (q2, .inl (X.ac 0, 5, .inl (fun _ => 0))), (q3, .inl (X.ac 0, 5, .inl (fun _ => 120))), (q4, .inl (X.ac 0, 5, .inl (fun _ => 0))), (q5, .inl (X.ac 0, 5, .inl (fun _ => (-1)))), ((q9 0), .inr (0, [.ref (q9 1), .int 0])), ((q9 1), .inl (X.ac 0, 12, .inl (fun _ => 0))), (q12, .inl (X.ac 0, 23, .inl (fun _ => 3))), (q13, .inl (X.ac 0, 23, .inl (fun _ => (-1)))), (q14, .inl (X.ac 0, 23, .inl (fun _ => 0))), (q15, .inl (X.ac 0, 23, .inl (fun _ => 0))), (q16, .inl (X.ac 0, 23, .inl (fun _ => 0))), (q17, .inl (X.ac 0, 12, .inl (fun _ => (-1)))), (q18, .inl (X.ac 0, 12, .inl (fun _ => (-1)))), (q19, .inl (X.ac 0, 12, .inl (fun _ => 0)))]) C rfl (by decide) q_4_1 q_4_2 q_4_3 q_4_4 ⟨Nat.le_of_ble_eq_true rfl, Nat.le_of_ble_eq_true rfl, rfl, rfl, Nat.le_of_ble_eq_true rfl, Nat.le_of_ble_eq_true rfl⟩ (Nat.le_of_ble_eq_true rfl) dX1_init_160 rfl ?_
  refine a_aload_n (pc := 163) (i := 0) C dX1_init_163 rfl rfl ?_
  refine a_getr (pc := 164) (q0 := 0) (j := 3) (ci := 1) (N := 14) (T := TX1) (Cn := RX1) C rfl rfl inlX1 (Nat.le_of_ble_eq_true rfl) q_3_13 rfl dX1_init_164 ?_
  refine a_bipush (pc := 167) (v := 60) C dX1_init_167 (by decide) ?_
  refine a_fill (pc := 169) (q0 := 4) ([(h0, .inr (1, [.ref q1, .ref q2, .ref q3, .ref q4, .ref q5, .ref (q9 0), .ref q12, .ref q13, .ref q14, .ref q15, .ref q16, .ref q17, .ref q18, .ref q19])), (q1, .inl (X.ac 0, 5, .inl (fun _ => 0))), (q2, .inl (X.ac 0, 5, .inl (fun _ => 0))), (q3, .inl (X.ac 0, 5, .inl (fun _ => 120))), (q4, .inl (X.ac 0, 5, .inl (fun _ => 60))), (q5, .inl (X.ac 0, 5, .inl (fun _ => (-1)))), ((q9 0), .inr (0, [.ref (q9 1), .int 0])), ((q9 1), .inl (X.ac 0, 12, .inl (fun _ => 0))), (q12, .inl (X.ac 0, 23, .inl (fun _ => 3))), (q13, .inl (X.ac 0, 23, .inl (fun _ => (-1)))), (q14, .inl (X.ac 0, 23, .inl (fun _ => 0))), (q15, .inl (X.ac 0, 23, .inl (fun _ => 0))), (q16, .inl (X.ac 0, 23, .inl (fun _ => 0))), (q17, .inl (X.ac 0, 12, .inl (fun _ => (-1)))), (q18, .inl (X.ac 0, 12, .inl (fun _ => (-1)))), (q19, .inl (X.ac 0, 12, .inl (fun _ => 0)))]) C rfl (by decide) q_4_1 q_4_2 q_4_3 q_4_4 ⟨Nat.le_of_ble_eq_true rfl, Nat.le_of_ble_eq_true rfl, rfl, rfl, Nat.le_of_ble_eq_true rfl, Nat.le_of_ble_eq_true rfl⟩ (Nat.le_of_ble_eq_true rfl) dX1_init_169 rfl ?_
  exact a_vret (pc := 172) C hr hz dX1_init_172 (Nat.le_of_ble_eq_true rfl) (Nat.le_of_ble_eq_true rfl) ⟨fun k => ([h0, q1, q2, q3, q4, q5, (q9 0), (q9 1), q12, q13, q14, q15, q16, q17, q18, q19] : List Nat).getD k 0, rfl, List.Perm.refl _⟩
theorem dX2_init_0 : decode cX2_init 0 = .ok (.aload_n 0, 1) := by decide +kernel
theorem dX2_init_1 : decode cX2_init 1 = .ok (.invokespecial 3, 3) := by decide +kernel
theorem dX2_init_4 : decode cX2_init 4 = .ok (.aload_n 0, 1) := by decide +kernel
theorem dX2_init_5 : decode cX2_init 5 = .ok (.bipush 23, 2) := by decide +kernel
theorem dX2_init_7 : decode cX2_init 7 = .ok (.newarray .int, 2) := by decide +kernel
theorem dX2_init_9 : decode cX2_init 9 = .ok (.putfield 9, 3) := by decide +kernel
theorem dX2_init_12 : decode cX2_init 12 = .ok (.aload_n 0, 1) := by decide +kernel
theorem dX2_init_13 : decode cX2_init 13 = .ok (.bipush 23, 2) := by decide +kernel
theorem dX2_init_15 : decode cX2_init 15 = .ok (.newarray .int, 2) := by decide +kernel
theorem dX2_init_17 : decode cX2_init 17 = .ok (.putfield 15, 3) := by decide +kernel
theorem dX2_init_20 : decode cX2_init 20 = .ok (.aload_n 0, 1) := by decide +kernel
theorem dX2_init_21 : decode cX2_init 21 = .ok (.bipush 23, 2) := by decide +kernel
theorem dX2_init_23 : decode cX2_init 23 = .ok (.newarray .int, 2) := by decide +kernel
theorem dX2_init_25 : decode cX2_init 25 = .ok (.putfield 18, 3) := by decide +kernel
theorem dX2_init_28 : decode cX2_init 28 = .ok (.aload_n 0, 1) := by decide +kernel
theorem dX2_init_29 : decode cX2_init 29 = .ok (.bipush 23, 2) := by decide +kernel
theorem dX2_init_31 : decode cX2_init 31 = .ok (.newarray .int, 2) := by decide +kernel
theorem dX2_init_33 : decode cX2_init 33 = .ok (.putfield 21, 3) := by decide +kernel
theorem dX2_init_36 : decode cX2_init 36 = .ok (.aload_n 0, 1) := by decide +kernel
theorem dX2_init_37 : decode cX2_init 37 = .ok (.bipush 23, 2) := by decide +kernel
theorem dX2_init_39 : decode cX2_init 39 = .ok (.newarray .int, 2) := by decide +kernel
theorem dX2_init_41 : decode cX2_init 41 = .ok (.putfield 24, 3) := by decide +kernel
theorem dX2_init_44 : decode cX2_init 44 = .ok (.aload_n 0, 1) := by decide +kernel
theorem dX2_init_45 : decode cX2_init 45 = .ok (.bipush 23, 2) := by decide +kernel
theorem dX2_init_47 : decode cX2_init 47 = .ok (.newarray .int, 2) := by decide +kernel
theorem dX2_init_49 : decode cX2_init 49 = .ok (.putfield 27, 3) := by decide +kernel
theorem dX2_init_52 : decode cX2_init 52 = .ok (.aload_n 0, 1) := by decide +kernel
theorem dX2_init_53 : decode cX2_init 53 = .ok (.bipush 23, 2) := by decide +kernel
theorem dX2_init_55 : decode cX2_init 55 = .ok (.newarray .int, 2) := by decide +kernel
theorem dX2_init_57 : decode cX2_init 57 = .ok (.putfield 30, 3) := by decide +kernel
theorem dX2_init_60 : decode cX2_init 60 = .ok (.aload_n 0, 1) := by decide +kernel
theorem dX2_init_61 : decode cX2_init 61 = .ok (.bipush 23, 2) := by decide +kernel
theorem dX2_init_63 : decode cX2_init 63 = .ok (.newarray .int, 2) := by decide +kernel
theorem dX2_init_65 : decode cX2_init 65 = .ok (.putfield 33, 3) := by decide +kernel
theorem dX2_init_68 : decode cX2_init 68 = .ok (.aload_n 0, 1) := by decide +kernel
theorem dX2_init_69 : decode cX2_init 69 = .ok (.bipush 23, 2) := by decide +kernel
theorem dX2_init_71 : decode cX2_init 71 = .ok (.newarray .int, 2) := by decide +kernel
theorem dX2_init_73 : decode cX2_init 73 = .ok (.putfield 36, 3) := by decide +kernel
theorem dX2_init_76 : decode cX2_init 76 = .ok (.aload_n 0, 1) := by decide +kernel
theorem dX2_init_77 : decode cX2_init 77 = .ok (.new 39, 3) := by decide +kernel
theorem dX2_init_80 : decode cX2_init 80 = .ok (.dup, 1) := by decide +kernel
theorem dX2_init_81 : decode cX2_init 81 = .ok (.invokespecial 41, 3) := by decide +kernel
theorem dX2_init_84 : decode cX2_init 84 = .ok (.putfield 42, 3) := by decide +kernel
theorem dX2_init_87 : decode cX2_init 87 = .ok (.return_, 1) := by decide +kernel
abbrev rmX2_init : Room := { frames := 6, cells := 15, slots := 328, locals := 200 }
theorem hdX2_init : yX2_init.cls ≠ "java/lang/invoke/MethodHandle" ∧ yX2_init.cls ≠ "java/lang/invoke/VarHandle" ∧ (parseMethodDescriptor yX2_init.desc).map (fun d => d.parameters.length) = some 0 := by decide +kernel
theorem iX2_init (X : Xc) (h0 sz : Nat) : Met X.l yX2_init (wsM yX2_init cX2_init 1 none) rmX2_init (va_Pc [.ref h0] (PA X [(h0, .inr (2, [.null, .null, .null, .null, .null, .null, .null, .null, .int 0, .null, .null]))] sz)) (QA X (h0, .inr (2, [.null, .null, .null, .null, .null, .null, .null, .null, .int 0, .null, .null])) sz (fun w => ∃ q : Nat → Nat, q 0 = h0 ∧ w.Perm (pnW X q))) 15 328 (va_A [(h0, .inr (2, [.null, .null, .null, .null, .null, .null, .null, .null, .int 0, .null, .null]))] sz) := by
  refine ct_of (own := RX2) (lo := [some (.ref h0)]) (by decide) rfl (Nat.le_of_ble_eq_true rfl) rfl (fun K C hr hin hz => ?_)
  refine a_aload_n (pc := 0) (i := 0) C dX2_init_0 rfl rfl ?_
  refine a_obj (pc := 1) C q_4_7 q_1_11 q_1_12 (Nat.le_of_ble_eq_true rfl) (Nat.le_of_ble_eq_true rfl) dX2_init_1 ?_
  refine a_aload_n (pc := 4) (i := 0) C dX2_init_4 rfl rfl ?_
  refine a_bipush (pc := 5) (v := 23) C dX2_init_5 (by decide) ?_
  refine a_newint (pc := 7) (N := 23) (fun q1 => [(h0, .inr (2, [.null, .null, .null, .null, .null, .null, .null, .null, .int 0, .null, .null])), (q1, .inl (X.ac 0, 23, .inl (fun _ => 0)))]) C q_2_14 (by decide) (by decide) (by decide) (Nat.le_of_ble_eq_true rfl) (Nat.le_of_ble_eq_true rfl) dX2_init_7 (fun _ => rfl) (fun q1 => ?_)
  refine a_putF (pc := 9) (q0 := 0) (j := 0) (ci := 2) (N := 11) (T := TX2) (Cn := RX2) ([(h0, .inr (2, [.ref q1, .null, .null, .null, .null, .null, .null, .null, .int 0, .null, .null])), (q1, .inl (X.ac 0, 23, .inl (fun _ => 0)))]) C hin rfl rfl inlX2 tyX2_ok nmX2 (Nat.le_of_ble_eq_true rfl) q_4_8 rfl rfl rfl rfl (Nat.le_of_ble_eq_true rfl) dX2_init_9 rfl ?_
  refine a_aload_n (pc := 12) (i := 0) C dX2_init_12 rfl rfl ?_
  refine a_bipush (pc := 13) (v := 23) C dX2_init_13 (by decide) ?_
  refine a_newint (pc := 15) (N := 23) (fun q2 => [(h0, .inr (2, [.ref q1, .null, .null, .null, .null, .null, .null, .null, .int 0, .null, .null])), (q1, .inl (X.ac 0, 23, .inl (fun _ => 0))), (q2, .inl (X.ac 0, 23, .inl (fun _ => 0)))]) C q_2_14 (by decide) (by decide) (by decide) (Nat.le_of_ble_eq_true rfl) (Nat.le_of_ble_eq_true rfl) dX2_init_15 (fun _ => rfl) (fun q2 => ?_)
  refine a_putF (pc := 17) (q0 := 0) (j := 1) (ci := 2) (N := 11) (T := TX2) (Cn := RX2) ([(h0, .inr (2, [.ref q1, .ref q2, .null, .null, .null, .null, .null, .null, .int 0, .null, .null])), (q1, .inl (X.ac 0, 23, .inl (fun _ => 0))), (q2, .inl (X.ac 0, 23, .inl (fun _ => 0)))]) C hin rfl rfl inlX2 tyX2_ok nmX2 (Nat.le_of_ble_eq_true rfl) q_4_9 rfl rfl rfl rfl (Nat.le_of_ble_eq_true rfl) dX2_init_17 rfl ?_
  refine a_aload_n (pc := 20) (i := 0) C dX2_init_20 rfl rfl ?_
  refine a_bipush (pc := 21) (v := 23) C dX2_init_21 (by decide) ?_
  refine a_newint (pc := 23) (N := 23) (fun q3 => [(h0, .inr (2, [.ref q1, .ref q2, .null, .null, .null, .null, .null, .null, .int 0, .null, .null])), (q1, .inl (X.ac 0, 23, .inl (fun _ => 0))), (q2, .inl (X.ac 0, 23, .inl (fun _ => 0))), (q3, .inl (X.ac 0, 23, .inl (fun _ => 0)))]) C q_2_14 (by decide) (by decide) (by decide) (Nat.le_of_ble_eq_true rfl) (Nat.le_of_ble_eq_true rfl) dX2_init_23 (fun _ => rfl) (fun q3 => ?_)
  refine a_putF (pc := 25) (q0 := 0) (j := 2) (ci := 2) (N := 11) (T := TX2) (Cn := RX2) ([(h0, .inr (2, [.ref q1, .ref q2, .ref q3, .null, .null, .null, .null, .null, .int 0, .null, .null])), (q1, .inl (X.ac 0, 23, .inl (fun _ => 0))), (q2, .inl (X.ac 0, 23, .inl (fun _ => 0))), (q3, .inl (X.ac 0, 23, .inl (fun _ => 0)))]) C hin rfl rfl inlX2 tyX2_ok nmX2 (Nat.le_of_ble_eq_true rfl) q_4_10 rfl rfl rfl rfl (Nat.le_of_ble_eq_true rfl) dX2_init_25 rfl ?_
  refine a_aload_n (pc := 28) (i := 0) C dX2_init_28 rfl rfl ?_
  refine a_bipush (pc := 29) (v := 23) C dX2_init_29 (by decide) ?_
  refine a_newint (pc := 31) (N := 23) (fun q4 => [(h0, .inr (2, [.ref q1, .ref q2, .ref q3, .null, .null, .null, .null, .null, .int 0, .null, .null])), (q1, .inl (X.ac 0, 23, .inl (fun _ => 0))), (q2, .inl (X.ac 0, 23, .inl (fun _ => 0))), (q3, .inl (X.ac 0, 23, .inl (fun _ => 0))), (q4, .inl (X.ac 0, 23, .inl (fun _ => 0)))]) C q_2_14 (by decide) (by decide) (by decide) (Nat.le_of_ble_eq_true rfl) (Nat.le_of_ble_eq_true rfl) dX2_init_31 (fun _ => rfl) (fun q4 => ?_)
  refine a_putF (pc := 33) (q0 := 0) (j := 3) (ci := 2) (N := 11) (T := TX2) (Cn := RX2) ([(h0, .inr (2, [.ref q1, .ref q2, .ref q3, .ref q4, .null, .null, .null, .null, .int 0, .null, .null])), (q1, .inl (X.ac 0, 23, .inl (fun _ => 0))), (q2, .inl (X.ac 0, 23, .inl (fun _ => 0))), (q3, .inl (X.ac 0, 23, .inl (fun _ => 0))), (q4, .inl (X.ac 0, 23, .inl (fun _ => 0)))]) C hin rfl rfl inlX2 tyX2_ok nmX2 (Nat.le_of_ble_eq_true rfl) q_4_11 rfl rfl rfl rfl (Nat.le_of_ble_eq_true rfl) dX2_init_33 rfl ?_
  refine a_aload_n (pc := 36) (i := 0) C dX2_init_36 rfl rfl ?_
  refine a_bipush (pc := 37) (v := 23) C dX2_init_37 (by decide) ?_
  refine a_newint (pc := 39) (N := 23) (fun q5 => [(h0, .inr (2, [.ref q1, .ref q2, .ref q3, .ref q4, .null, .null, .null, .null, .int 0, .null, .null])), (q1, .inl (X.ac 0, 23, .inl (fun _ => 0))), (q2, .inl (X.ac 0, 23, .inl (fun _ => 0))), (q3, .inl (X.ac 0, 23, .inl (fun _ => 0))), (q4, .inl (X.ac 0, 23, .inl (fun _ => 0))), (q5, .inl (X.ac 0, 23, .inl (fun _ => 0)))]) C q_2_14 (by decide) (by decide) (by decide) (Nat.le_of_ble_eq_true rfl) (Nat.le_of_ble_eq_true rfl) dX2_init_39 (fun _ => rfl) (fun q5 => ?_)
  refine a_putF (pc := 41) (q0 := 0) (j := 4) (ci := 2) (N := 11) (T := TX2) (Cn := RX2) ([(h0, .inr (2, [.ref q1, .ref q2, .ref q3, .ref q4, .ref q5, .null, .null, .null, .int 0, .null, .null])), (q1, .inl (X.ac 0, 23, .inl (fun _ => 0))), (q2, .inl (X.ac 0, 23, .inl (fun _ => 0))), (q3, .inl (X.ac 0, 23, .inl (fun _ => 0))), (q4, .inl (X.ac 0, 23, .inl (fun _ => 0))), (q5, .inl (X.ac 0, 23, .inl (fun _ => 0)))]) C hin rfl rfl inlX2 tyX2_ok nmX2 (Nat.le_of_ble_eq_true rfl) q_4_12 rfl rfl rfl rfl (Nat.le_of_ble_eq_true rfl) dX2_init_41 rfl ?_
  refine a_aload_n (pc := 44) (i := 0) C dX2_init_44 rfl rfl ?_
  refine a_bipush (pc := 45) (v := 23) C dX2_init_45 (by decide) ?_
  refine a_newint (pc := 47) (N := 23) (fun q6 => [(h0, .inr (2, [.ref q1, .ref q2, .ref q3, .ref q4, .ref q5, .null, .null, .null, .int 0, .null, .null])), (q1, .inl (X.ac 0, 23, .inl (fun _ => 0))), (q2, .inl (X.ac 0, 23, .inl (fun _ => 0))), (q3, .inl (X.ac 0, 23, .inl (fun _ => 0))), (q4, .inl (X.ac 0, 23, .inl (fun _ => 0))), (q5, .inl (X.ac 0, 23, .inl (fun _ => 0))), (q6, .inl (X.ac 0, 23, .inl (fun _ => 0)))]) C q_2_14 (by decide) (by decide) (by decide) (Nat.le_of_ble_eq_true rfl) (Nat.le_of_ble_eq_true rfl) dX2_init_47 (fun _ => rfl) (fun q6 => ?_)
  refine a_putF (pc := 49) (q0 := 0) (j := 5) (ci := 2) (N := 11) (T := TX2) (Cn := RX2) ([(h0, .inr (2, [.ref q1, .ref q2, .ref q3, .ref q4, .ref q5, .ref q6, .null, .null, .int 0, .null, .null])), (q1, .inl (X.ac 0, 23, .inl (fun _ => 0))), (q2, .inl (X.ac 0, 23, .inl (fun _ => 0))), (q3, .inl (X.ac 0, 23, .inl (fun _ => 0))), (q4, .inl (X.ac 0, 23, .inl (fun _ => 0))), (q5, .inl (X.ac 0, 23, .inl (fun _ => 0))), (q6, .inl (X.ac 0, 23, .inl (fun _ => 0)))]) C hin rfl rfl inlX2 tyX2_ok nmX2 (Nat.le_of_ble_eq_true rfl) q_4_13 rfl rfl rfl rfl (Nat.le_of_ble_eq_true rfl) dX2_init_49 rfl ?_
  refine a_aload_n (pc := 52) (i := 0) C dX2_init_52 rfl rfl ?_
  refine a_bipush (pc := 53) (v := 23) C dX2_init_53 (by decide) ?_
  refine a_newint (pc := 55) (N := 23) (fun q7 => [(h0, .inr (2, [.ref q1, .ref q2, .ref q3, .ref q4, .ref q5, .ref q6, .null, .null, .int 0, .null, .null])), (q1, .inl (X.ac 0, 23, .inl (fun _ => 0))), (q2, .inl (X.ac 0, 23, .inl (fun _ => 0))), (q3, .inl (X.ac 0, 23, .inl (fun _ => 0))), (q4, .inl (X.ac 0, 23, .inl (fun _ => 0))), (q5, .inl (X.ac 0, 23, .inl (fun _ => 0))), (q6, .inl (X.ac 0, 23, .inl (fun _ => 0))), (q7, .inl (X.ac 0, 23, .inl (fun _ => 0)))]) C q_2_14 (by decide) (by decide) (by decide) (Nat.le_of_ble_eq_true rfl) (Nat.le_of_ble_eq_true rfl) dX2_init_55 (fun _ => rfl) (fun q7 => ?_)
  refine a_putF (pc := 57) (q0 := 0) (j := 6) (ci := 2) (N := 11) (T := TX2) (Cn := RX2) ([(h0, .inr (2, [.ref q1, .ref q2, .ref q3, .ref q4, .ref q5, .ref q6, .ref q7, .null, .int 0, .null, .null])), (q1, .inl (X.ac 0, 23, .inl (fun _ => 0))), (q2, .inl (X.ac 0, 23, .inl (fun _ => 0))), (q3, .inl (X.ac 0, 23, .inl (fun _ => 0))), (q4, .inl (X.ac 0, 23, .inl (fun _ => 0))), (q5, .inl (X.ac 0, 23, .inl (fun _ => 0))), (q6, .inl (X.ac 0, 23, .inl (fun _ => 0))), (q7, .inl (X.ac 0, 23, .inl (fun _ => 0)))]) C hin rfl rfl inlX2 tyX2_ok nmX2 (Nat.le_of_ble_eq_true rfl) q_4_14 rfl rfl rfl rfl (Nat.le_of_ble_eq_true rfl) dX2_init_57 rfl ?_
  refine a_aload_n (pc := 60) (i := 0) C dX2_init_60 rfl rfl ?_
  refine a_bipush (pc := 61) (v := 23) C dX2_init_61 (by decide) ?_
  refine a_newint (pc := 63) (N := 23) (fun q8 => [(h0, .inr (2, [.ref q1, .ref q2, .ref q3, .ref q4, .ref q5, .ref q6, .ref q7, .null, .int 0, .null, .null])), (q1, .inl (X.ac 0, 23, .inl (fun _ => 0))), (q2, .inl (X.ac 0, 23, .inl (fun _ => 0))), (q3, .inl (X.ac 0, 23, .inl (fun _ => 0))), (q4, .inl (X.ac 0, 23, .inl (fun _ => 0))), (q5, .inl (X.ac 0, 23, .inl (fun _ => 0))), (q6, .inl (X.ac 0, 23, .inl (fun _ => 0))), (q7, .inl (X.ac 0, 23, .inl (fun _ => 0))), (q8, .inl (X.ac 0, 23, .inl (fun _ => 0)))]) C q_2_14 (by decide) (by decide) (by decide) (Nat.le_of_ble_eq_true rfl) (Nat.le_of_ble_eq_true rfl) dX2_init_63 (fun _ => rfl) (fun q8 => ?_)
  refine a_putF (pc := 65) (q0 := 0) (j := 7) (ci := 2) (N := 11) (T := TX2) (Cn := RX2) ([(h0, .inr (2, [.ref q1, .ref q2, .ref q3, .ref q4, .ref q5, .ref q6, .ref q7, .ref q8, .int 0, .null, .null])), (q1, .inl (X.ac 0, 23, .inl (fun _ => 0))), (q2, .inl (X.ac 0, 23, .inl (fun _ => 0))), (q3, .inl (X.ac 0, 23, .inl (fun _ => 0))), (q4, .inl (X.ac 0, 23, .inl (fun _ => 0))), (q5, .inl (X.ac 0, 23, .inl (fun _ => 0))), (q6, .inl (X.ac 0, 23, .inl (fun _ => 0))), (q7, .inl (X.ac 0, 23, .inl (fun _ => 0))), (q8, .inl (X.ac 0, 23, .inl (fun _ => 0)))]) C hin rfl rfl inlX2 tyX2_ok nmX2 (Nat.le_of_ble_eq_true rfl) q_4_15 rfl rfl rfl rfl (Nat.le_of_ble_eq_true rfl) dX2_init_65 rfl ?_
  refine a_aload_n (pc := 68) (i := 0) C dX2_init_68 rfl rfl ?_
  refine a_bipush (pc := 69) (v := 23) C dX2_init_69 (by decide) ?_
  refine a_newint (pc := 71) (N := 23) (fun q9 => [(h0, .inr (2, [.ref q1, .ref q2, .ref q3, .ref q4, .ref q5, .ref q6, .ref q7, .ref q8, .int 0, .null, .null])), (q1, .inl (X.ac 0, 23, .inl (fun _ => 0))), (q2, .inl (X.ac 0, 23, .inl (fun _ => 0))), (q3, .inl (X.ac 0, 23, .inl (fun _ => 0))), (q4, .inl (X.ac 0, 23, .inl (fun _ => 0))), (q5, .inl (X.ac 0, 23, .inl (fun _ => 0))), (q6, .inl (X.ac 0, 23, .inl (fun _ => 0))), (q7, .inl (X.ac 0, 23, .inl (fun _ => 0))), (q8, .inl (X.ac 0, 23, .inl (fun _ => 0))), (q9, .inl (X.ac 0, 23, .inl (fun _ => 0)))]) C q_2_14 (by decide) (by decide) (by decide) (Nat.le_of_ble_eq_true rfl) (Nat.le_of_ble_eq_true rfl) dX2_init_71 (fun _ => rfl) (fun q9 => ?_)
  refine a_putF (pc := 73) (q0 := 0) (j := 9) (ci := 2) (N := 11) (T := TX2) (Cn := RX2) ([(h0, .inr (2, [.ref q1, .ref q2, .ref q3, .ref q4, .ref q5, .ref q6, .ref q7, .ref q8, .int 0, .ref q9, .null])), (q1, .inl (X.ac 0, 23, .inl (fun _ => 0))), (q2, .inl (X.ac 0, 23, .inl (fun _ => 0))), (q3, .inl (X.ac 0, 23, .inl (fun _ => 0))), (q4, .inl (X.ac 0, 23, .inl (fun _ => 0))), (q5, .inl (X.ac 0, 23, .inl (fun _ => 0))), (q6, .inl (X.ac 0, 23, .inl (fun _ => 0))), (q7, .inl (X.ac 0, 23, .inl (fun _ => 0))), (q8, .inl (X.ac 0, 23, .inl (fun _ => 0))), (q9, .inl (X.ac 0, 23, .inl (fun _ => 0)))]) C hin rfl rfl inlX2 tyX2_ok nmX2 (Nat.le_of_ble_eq_true rfl) q_4_16 rfl rfl rfl rfl (Nat.le_of_ble_eq_true rfl) dX2_init_73 rfl ?_
  refine a_aload_n (pc := 76) (i := 0) C dX2_init_76 rfl rfl ?_
  refine a_new (pc := 77) (ci := 3) (N := 6) (T := TX3) (Cn := RX3) (fs := [.null, .null, .null, .null, .null, .int 0]) (fun q10 => [(h0, .inr (2, [.ref q1, .ref q2, .ref q3, .ref q4, .ref q5, .ref q6, .ref q7, .ref q8, .int 0, .ref q9, .null])), (q1, .inl (X.ac 0, 23, .inl (fun _ => 0))), (q2, .inl (X.ac 0, 23, .inl (fun _ => 0))), (q3, .inl (X.ac 0, 23, .inl (fun _ => 0))), (q4, .inl (X.ac 0, 23, .inl (fun _ => 0))), (q5, .inl (X.ac 0, 23, .inl (fun _ => 0))), (q6, .inl (X.ac 0, 23, .inl (fun _ => 0))), (q7, .inl (X.ac 0, 23, .inl (fun _ => 0))), (q8, .inl (X.ac 0, 23, .inl (fun _ => 0))), (q9, .inl (X.ac 0, 23, .inl (fun _ => 0))), (q10, .inr (3, [.null, .null, .null, .null, .null, .int 0]))]) C rfl inlX3 tyX3_ok q_4_17 q_4_18 q_4_19 (fun j hj => by rcases (show j = 0 ∨ j = 1 ∨ j = 2 ∨ j = 3 ∨ j = 4 ∨ j = 5 by omega) with rfl | rfl | rfl | rfl | rfl | rfl <;> rfl) (Nat.le_of_ble_eq_true rfl) (Nat.le_of_ble_eq_true rfl) dX2_init_77 (fun _ => rfl) (fun q10 => ?_)
  refine a_dup (pc := 80) C dX2_init_80 rfl ?_
  refine a_initN (pc := 81) (W0 := [(h0, .inr (2, [.ref q1, .ref q2, .ref q3, .ref q4, .ref q5, .ref q6, .ref q7, .ref q8, .int 0, .ref q9, .null])), (q1, .inl (X.ac 0, 23, .inl (fun _ => 0))), (q2, .inl (X.ac 0, 23, .inl (fun _ => 0))), (q3, .inl (X.ac 0, 23, .inl (fun _ => 0))), (q4, .inl (X.ac 0, 23, .inl (fun _ => 0))), (q5, .inl (X.ac 0, 23, .inl (fun _ => 0))), (q6, .inl (X.ac 0, 23, .inl (fun _ => 0))), (q7, .inl (X.ac 0, 23, .inl (fun _ => 0))), (q8, .inl (X.ac 0, 23, .inl (fun _ => 0))), (q9, .inl (X.ac 0, 23, .inl (fun _ => 0)))]) C (fun sz => iX3_init X q10 sz) (List.mem_of_getElem? (i := 5) rfl) q_4_21 q_4_19 q_4_22 rfl hdX3_init ⟨Nat.le_of_ble_eq_true rfl, Nat.le_of_ble_eq_true rfl, rfl, rfl, Nat.le_of_ble_eq_true rfl, Nat.le_of_ble_eq_true rfl⟩ (Nat.le_of_ble_eq_true rfl) dX2_init_81 rfl (fun w11 hw12 => ?_)
  obtain ⟨q13, e14, p15⟩ := hw12
  subst e14
  refine a_perm (List.Perm.append_left _ p15) ?_
  refine a_eq (ws' := (h0, .inr (2, [.ref q1, .ref q2, .ref q3, .ref q4, .ref q5, .ref q6, .ref q7, .ref q8, .int 0, .ref q9, .null])) :: (q1, .inl (X.ac 0, 23, .inl (fun _ => 0))) :: (q2, .inl (X.ac 0, 23, .inl (fun _ => 0))) :: (q3, .inl (X.ac 0, 23, .inl (fun _ => 0))) :: (q4, .inl (X.ac 0, 23, .inl (fun _ => 0))) :: (q5, .inl (X.ac 0, 23, .inl (fun _ => 0))) :: (q6, .inl (X.ac 0, 23, .inl (fun _ => 0))) :: (q7, .inl (X.ac 0, 23, .inl (fun _ => 0))) :: (q8, .inl (X.ac 0, 23, .inl (fun _ => 0))) :: (q9, .inl (X.ac 0, 23, .inl (fun _ => 0))) :: (shW X q13)) rfl ?_
  refine a_putF (pc := 84) (q0 := 0) (j := 10) (ci := 2) (N := 11) (T := TX2) (Cn := RX2) ((h0, .inr (2, [.ref q1, .ref q2, .ref q3, .ref q4, .ref q5, .ref q6, .ref q7, .ref q8, .int 0, .ref q9, .ref (q13 0)])) :: (q1, .inl (X.ac 0, 23, .inl (fun _ => 0))) :: (q2, .inl (X.ac 0, 23, .inl (fun _ => 0))) :: (q3, .inl (X.ac 0, 23, .inl (fun _ => 0))) :: (q4, .inl (X.ac 0, 23, .inl (fun _ => 0))) :: (q5, .inl (X.ac 0, 23, .inl (fun _ => 0))) :: (q6, .inl (X.ac 0, 23, .inl (fun _ => 0))) :: (q7, .inl (X.ac 0, 23, .inl (fun _ => 0))) :: (q8, .inl (X.ac 0, 23, .inl (fun _ => 0))) :: (q9, .inl (X.ac 0, 23, .inl (fun _ => 0))) :: (shW X q13)) C hin rfl rfl inlX2 tyX2_ok nmX2 (Nat.le_of_ble_eq_true rfl) q_4_20 rfl rfl rfl rfl (Nat.le_of_ble_eq_true rfl) dX2_init_84 rfl ?_
  exact a_vret (pc := 87) C hr hz dX2_init_87 (Nat.le_of_ble_eq_true rfl) (Nat.le_of_ble_eq_true rfl) ⟨fun k => if k < 1 then h0 else if k < 2 then q1 else if k < 3 then q2 else if k < 4 then q3 else if k < 5 then q4 else if k < 6 then q5 else if k < 7 then q6 else if k < 8 then q7 else if k < 9 then q8 else if k < 10 then q9 else if k < 16 then q13 (k - 10) else 0, rfl, List.Perm.refl _⟩
theorem dX4_init_0 : decode cX4_init 0 = .ok (.aload_n 0, 1) := by decide +kernel
theorem dX4_init_1 : decode cX4_init 1 = .ok (.invokespecial 3, 3) := by decide +kernel
theorem dX4_init_4 : decode cX4_init 4 = .ok (.aload_n 0, 1) := by decide +kernel
theorem dX4_init_5 : decode cX4_init 5 = .ok (.bipush 12, 2) := by decide +kernel
theorem dX4_init_7 : decode cX4_init 7 = .ok (.newarray .int, 2) := by decide +kernel
theorem dX4_init_9 : decode cX4_init 9 = .ok (.putfield 9, 3) := by decide +kernel
theorem dX4_init_12 : decode cX4_init 12 = .ok (.aload_n 0, 1) := by decide +kernel
theorem dX4_init_13 : decode cX4_init 13 = .ok (.bipush 12, 2) := by decide +kernel
theorem dX4_init_15 : decode cX4_init 15 = .ok (.newarray .int, 2) := by decide +kernel
theorem dX4_init_17 : decode cX4_init 17 = .ok (.putfield 15, 3) := by decide +kernel
theorem dX4_init_20 : decode cX4_init 20 = .ok (.aload_n 0, 1) := by decide +kernel
theorem dX4_init_21 : decode cX4_init 21 = .ok (.new 18, 3) := by decide +kernel
theorem dX4_init_24 : decode cX4_init 24 = .ok (.dup, 1) := by decide +kernel
theorem dX4_init_25 : decode cX4_init 25 = .ok (.invokespecial 20, 3) := by decide +kernel
theorem dX4_init_28 : decode cX4_init 28 = .ok (.putfield 21, 3) := by decide +kernel
theorem dX4_init_31 : decode cX4_init 31 = .ok (.aload_n 0, 1) := by decide +kernel
theorem dX4_init_32 : decode cX4_init 32 = .ok (.new 25, 3) := by decide +kernel
theorem dX4_init_35 : decode cX4_init 35 = .ok (.dup, 1) := by decide +kernel
theorem dX4_init_36 : decode cX4_init 36 = .ok (.invokespecial 27, 3) := by decide +kernel
theorem dX4_init_39 : decode cX4_init 39 = .ok (.putfield 28, 3) := by decide +kernel
theorem dX4_init_42 : decode cX4_init 42 = .ok (.aload_n 0, 1) := by decide +kernel
theorem dX4_init_43 : decode cX4_init 43 = .ok (.iconst 3, 1) := by decide +kernel
theorem dX4_init_44 : decode cX4_init 44 = .ok (.anewarray 25, 3) := by decide +kernel
theorem dX4_init_47 : decode cX4_init 47 = .ok (.putfield 32, 3) := by decide +kernel
theorem dX4_init_50 : decode cX4_init 50 = .ok (.iconst 0, 1) := by decide +kernel
theorem dX4_init_51 : decode cX4_init 51 = .ok (.istore_n 1, 1) := by decide +kernel
theorem dX4_init_52 : decode cX4_init 52 = .ok (.iload_n 1, 1) := by decide +kernel
theorem dX4_init_53 : decode cX4_init 53 = .ok (.aload_n 0, 1) := by decide +kernel
theorem dX4_init_54 : decode cX4_init 54 = .ok (.getfield 32, 3) := by decide +kernel
theorem dX4_init_57 : decode cX4_init 57 = .ok (.arraylength, 1) := by decide +kernel
theorem dX4_init_58 : decode cX4_init 58 = .ok (.if_icmp .ge 22, 3) := by decide +kernel
theorem dX4_init_61 : decode cX4_init 61 = .ok (.aload_n 0, 1) := by decide +kernel
theorem dX4_init_62 : decode cX4_init 62 = .ok (.getfield 32, 3) := by decide +kernel
theorem dX4_init_65 : decode cX4_init 65 = .ok (.iload_n 1, 1) := by decide +kernel
theorem dX4_init_66 : decode cX4_init 66 = .ok (.new 25, 3) := by decide +kernel
theorem dX4_init_69 : decode cX4_init 69 = .ok (.dup, 1) := by decide +kernel
theorem dX4_init_70 : decode cX4_init 70 = .ok (.invokespecial 27, 3) := by decide +kernel
theorem dX4_init_73 : decode cX4_init 73 = .ok (.aastore, 1) := by decide +kernel
theorem dX4_init_74 : decode cX4_init 74 = .ok (.iinc 1 1, 3) := by decide +kernel
theorem dX4_init_77 : decode cX4_init 77 = .ok (.goto (-25), 3) := by decide +kernel
theorem dX4_init_80 : decode cX4_init 80 = .ok (.return_, 1) := by decide +kernel
abbrev rmX4_init : Room := { frames := 10, cells := 69, slots := 857, locals := 400 }
theorem hdX4_init : yX4_init.cls ≠ "java/lang/invoke/MethodHandle" ∧ yX4_init.cls ≠ "java/lang/invoke/VarHandle" ∧ (parseMethodDescriptor yX4_init.desc).map (fun d => d.parameters.length) = some 0 := by decide +kernel
theorem iX4_init (X : Xc) (h0 sz : Nat) : Met X.l yX4_init (wsM yX4_init cX4_init 2 none) rmX4_init (va_Pc [.ref h0] (PA X [(h0, .inr (4, [.int 0, .null, .null, .null, .null, .null, .int 0]))] sz)) (QA X (h0, .inr (4, [.int 0, .null, .null, .null, .null, .null, .int 0])) sz (fun w => ∃ q : Nat → Nat, q 0 = h0 ∧ w.Perm (stW X q))) 69 857 (va_A [(h0, .inr (4, [.int 0, .null, .null, .null, .null, .null, .int 0]))] sz) := by
  refine ct_of (own := RX4) (lo := [some (.ref h0), none]) (by decide) rfl (Nat.le_of_ble_eq_true rfl) rfl (fun K C hr hin hz => ?_)
  refine a_aload_n (pc := 0) (i := 0) C dX4_init_0 rfl rfl ?_
  refine a_obj (pc := 1) C q_2_13 q_1_11 q_1_12 (Nat.le_of_ble_eq_true rfl) (Nat.le_of_ble_eq_true rfl) dX4_init_1 ?_
  refine a_aload_n (pc := 4) (i := 0) C dX4_init_4 rfl rfl ?_
  refine a_bipush (pc := 5) (v := 12) C dX4_init_5 (by decide) ?_
  refine a_newint (pc := 7) (N := 12) (fun q1 => [(h0, .inr (4, [.int 0, .null, .null, .null, .null, .null, .int 0])), (q1, .inl (X.ac 0, 12, .inl (fun _ => 0)))]) C q_2_14 (by decide) (by decide) (by decide) (Nat.le_of_ble_eq_true rfl) (Nat.le_of_ble_eq_true rfl) dX4_init_7 (fun _ => rfl) (fun q1 => ?_)
  refine a_putF (pc := 9) (q0 := 0) (j := 1) (ci := 4) (N := 7) (T := TX4) (Cn := RX4) ([(h0, .inr (4, [.int 0, .ref q1, .null, .null, .null, .null, .int 0])), (q1, .inl (X.ac 0, 12, .inl (fun _ => 0)))]) C hin rfl rfl inlX4 tyX4_ok nmX4 (Nat.le_of_ble_eq_true rfl) q_2_15 rfl rfl rfl rfl (Nat.le_of_ble_eq_true rfl) dX4_init_9 rfl ?_
  refine a_aload_n (pc := 12) (i := 0) C dX4_init_12 rfl rfl ?_
  refine a_bipush (pc := 13) (v := 12) C dX4_init_13 (by decide) ?_
  refine a_newint (pc := 15) (N := 12) (fun q2 => [(h0, .inr (4, [.int 0, .ref q1, .null, .null, .null, .null, .int 0])), (q1, .inl (X.ac 0, 12, .inl (fun _ => 0))), (q2, .inl (X.ac 0, 12, .inl (fun _ => 0)))]) C q_2_14 (by decide) (by decide) (by decide) (Nat.le_of_ble_eq_true rfl) (Nat.le_of_ble_eq_true rfl) dX4_init_15 (fun _ => rfl) (fun q2 => ?_)
  refine a_putF (pc := 17) (q0 := 0) (j := 2) (ci := 4) (N := 7) (T := TX4) (Cn := RX4) ([(h0, .inr (4, [.int 0, .ref q1, .ref q2, .null, .null, .null, .int 0])), (q1, .inl (X.ac 0, 12, .inl (fun _ => 0))), (q2, .inl (X.ac 0, 12, .inl (fun _ => 0)))]) C hin rfl rfl inlX4 tyX4_ok nmX4 (Nat.le_of_ble_eq_true rfl) q_2_16 rfl rfl rfl rfl (Nat.le_of_ble_eq_true rfl) dX4_init_17 rfl ?_
  refine a_aload_n (pc := 20) (i := 0) C dX4_init_20 rfl rfl ?_
  refine a_new (pc := 21) (ci := 0) (N := 2) (T := TX0) (Cn := RX0) (fs := [.null, .int 0]) (fun q3 => [(h0, .inr (4, [.int 0, .ref q1, .ref q2, .null, .null, .null, .int 0])), (q1, .inl (X.ac 0, 12, .inl (fun _ => 0))), (q2, .inl (X.ac 0, 12, .inl (fun _ => 0))), (q3, .inr (0, [.null, .int 0]))]) C rfl inlX0 tyX0_ok q_2_17 q_2_18 q_2_19 (fun j hj => by rcases (show j = 0 ∨ j = 1 by omega) with rfl | rfl <;> rfl) (Nat.le_of_ble_eq_true rfl) (Nat.le_of_ble_eq_true rfl) dX4_init_21 (fun _ => rfl) (fun q3 => ?_)
  refine a_dup (pc := 24) C dX4_init_24 rfl ?_
  refine a_initN (pc := 25) (W0 := [(h0, .inr (4, [.int 0, .ref q1, .ref q2, .null, .null, .null, .int 0])), (q1, .inl (X.ac 0, 12, .inl (fun _ => 0))), (q2, .inl (X.ac 0, 12, .inl (fun _ => 0)))]) C (fun sz => iX0_init X q3 sz) (List.mem_of_getElem? (i := 6) rfl) q_3_2 q_2_19 q_3_3 rfl hdX0_init ⟨Nat.le_of_ble_eq_true rfl, Nat.le_of_ble_eq_true rfl, rfl, rfl, Nat.le_of_ble_eq_true rfl, Nat.le_of_ble_eq_true rfl⟩ (Nat.le_of_ble_eq_true rfl) dX4_init_25 rfl (fun w4 hw5 => ?_)
  obtain ⟨q6, e7, p8⟩ := hw5
  subst e7
  refine a_perm (List.Perm.append_left _ p8) ?_
  refine a_eq (ws' := (h0, .inr (4, [.int 0, .ref q1, .ref q2, .null, .null, .null, .int 0])) :: (q1, .inl (X.ac 0, 12, .inl (fun _ => 0))) :: (q2, .inl (X.ac 0, 12, .inl (fun _ => 0))) :: (orW X q6)) rfl ?_
  refine a_putF (pc := 28) (q0 := 0) (j := 3) (ci := 4) (N := 7) (T := TX4) (Cn := RX4) ((h0, .inr (4, [.int 0, .ref q1, .ref q2, .ref (q6 0), .null, .null, .int 0])) :: (q1, .inl (X.ac 0, 12, .inl (fun _ => 0))) :: (q2, .inl (X.ac 0, 12, .inl (fun _ => 0))) :: (orW X q6)) C hin rfl rfl inlX4 tyX4_ok nmX4 (Nat.le_of_ble_eq_true rfl) q_2_20 rfl rfl rfl rfl (Nat.le_of_ble_eq_true rfl) dX4_init_28 rfl ?_
  refine a_aload_n (pc := 31) (i := 0) C dX4_init_31 rfl rfl ?_
  refine a_new (pc := 32) (ci := 1) (N := 14) (T := TX1) (Cn := RX1) (fs := [.null, .null, .null, .null, .null, .null, .null, .null, .null, .null, .null, .null, .null, .null]) (fun q9 => (h0, .inr (4, [.int 0, .ref q1, .ref q2, .ref (q6 0), .null, .null, .int 0])) :: (q1, .inl (X.ac 0, 12, .inl (fun _ => 0))) :: (q2, .inl (X.ac 0, 12, .inl (fun _ => 0))) :: (orW X q6 ++ [(q9, .inr (1, [.null, .null, .null, .null, .null, .null, .null, .null, .null, .null, .null, .null, .null, .null]))])) C rfl inlX1 tyX1_ok q_2_21 q_2_22 q_2_23 (fun j hj => by rcases (show j = 0 ∨ j = 1 ∨ j = 2 ∨ j = 3 ∨ j = 4 ∨ j = 5 ∨ j = 6 ∨ j = 7 ∨ j = 8 ∨ j = 9 ∨ j = 10 ∨ j = 11 ∨ j = 12 ∨ j = 13 by omega) with rfl | rfl | rfl | rfl | rfl | rfl | rfl | rfl | rfl | rfl | rfl | rfl | rfl | rfl <;> rfl) (Nat.le_of_ble_eq_true rfl) (Nat.le_of_ble_eq_true rfl) dX4_init_32 (fun _ => rfl) (fun q9 => ?_)
  refine a_dup (pc := 35) C dX4_init_35 rfl ?_
  refine a_init (pc := 36) (W0 := (h0, .inr (4, [.int 0, .ref q1, .ref q2, .ref (q6 0), .null, .null, .int 0])) :: (q1, .inl (X.ac 0, 12, .inl (fun _ => 0))) :: (q2, .inl (X.ac 0, 12, .inl (fun _ => 0))) :: (orW X q6)) C (fun sz => iX1_init X q9 sz) q_3_6 q_3_7 q_2_23 q_3_8 rfl hdX1_init ⟨Nat.le_of_ble_eq_true rfl, Nat.le_of_ble_eq_true rfl, rfl, rfl, Nat.le_of_ble_eq_true rfl, Nat.le_of_ble_eq_true rfl⟩ (Nat.le_of_ble_eq_true rfl) dX4_init_36 rfl (fun w10 hw11 => ?_)
  obtain ⟨q12, e13, p14⟩ := hw11
  subst e13
  refine a_perm (List.Perm.append_left _ p14) ?_
  refine a_eq (ws' := (h0, .inr (4, [.int 0, .ref q1, .ref q2, .ref (q6 0), .null, .null, .int 0])) :: (q1, .inl (X.ac 0, 12, .inl (fun _ => 0))) :: (q2, .inl (X.ac 0, 12, .inl (fun _ => 0))) :: (orW X q6 ++ plW X q12)) rfl ?_
  refine a_putF (pc := 39) (q0 := 0) (j := 4) (ci := 4) (N := 7) (T := TX4) (Cn := RX4) ((h0, .inr (4, [.int 0, .ref q1, .ref q2, .ref (q6 0), .ref (q12 0), .null, .int 0])) :: (q1, .inl (X.ac 0, 12, .inl (fun _ => 0))) :: (q2, .inl (X.ac 0, 12, .inl (fun _ => 0))) :: (orW X q6 ++ plW X q12)) C hin rfl rfl inlX4 tyX4_ok nmX4 (Nat.le_of_ble_eq_true rfl) q_3_0 rfl rfl rfl rfl (Nat.le_of_ble_eq_true rfl) dX4_init_39 rfl ?_
  refine a_aload_n (pc := 42) (i := 0) C dX4_init_42 rfl rfl ?_
  refine a_iconst (pc := 43) (v := 3) C dX4_init_43 (by decide) ?_
  refine a_anewP (pc := 44) (N := 3) (fun q15 => (h0, .inr (4, [.int 0, .ref q1, .ref q2, .ref (q6 0), .ref (q12 0), .null, .int 0])) :: (q1, .inl (X.ac 0, 12, .inl (fun _ => 0))) :: (q2, .inl (X.ac 0, 12, .inl (fun _ => 0))) :: (orW X q6 ++ plW X q12 ++ [(q15, .inl (X.ac 3, 3, .inr (.inr (.inr (.inr (fun _ => none))))))])) C q_2_21 (by decide) (by decide) (by decide) (Nat.le_of_ble_eq_true rfl) (Nat.le_of_ble_eq_true rfl) dX4_init_44 (fun _ => rfl) (fun q15 => ?_)
  refine a_perm (ws' := (h0, .inr (4, [.int 0, .ref q1, .ref q2, .ref (q6 0), .ref (q12 0), .null, .int 0])) :: (q1, .inl (X.ac 0, 12, .inl (fun _ => 0))) :: (q2, .inl (X.ac 0, 12, .inl (fun _ => 0))) :: (q15, .inl (X.ac 3, 3, .inr (.inr (.inr (.inr (fun _ => none)))))) :: (orW X q6 ++ plW X q12)) ((((List.perm_append_singleton _ _).cons _).cons _).cons _) ?_
  refine a_putF (pc := 47) (q0 := 0) (j := 5) (ci := 4) (N := 7) (T := TX4) (Cn := RX4) ((h0, .inr (4, [.int 0, .ref q1, .ref q2, .ref (q6 0), .ref (q12 0), .ref q15, .int 0])) :: (q1, .inl (X.ac 0, 12, .inl (fun _ => 0))) :: (q2, .inl (X.ac 0, 12, .inl (fun _ => 0))) :: (q15, .inl (X.ac 3, 3, .inr (.inr (.inr (.inr (fun _ => none)))))) :: (orW X q6 ++ plW X q12)) C hin rfl rfl inlX4 tyX4_ok nmX4 (Nat.le_of_ble_eq_true rfl) q_3_1 rfl rfl rfl rfl (Nat.le_of_ble_eq_true rfl) dX4_init_47 rfl ?_
  refine a_iconst (pc := 50) (v := 0) C dX4_init_50 (by decide) ?_
  refine a_istore_n (pc := 51) (i := 1) C dX4_init_51 rfl (Nat.le_of_ble_eq_true rfl) rfl ?_
  show GA X K _ _ _ _ _ _ _ [some (.ref h0), some (.int 0)] _
  refine a_iload_n (pc := 52) (i := 1) C dX4_init_52 rfl rfl ?_
  refine a_aload_n (pc := 53) (i := 0) C dX4_init_53 rfl rfl ?_
  refine a_getr (pc := 54) (q0 := 0) (j := 5) (ci := 4) (N := 7) (T := TX4) (Cn := RX4) C rfl rfl inlX4 (Nat.le_of_ble_eq_true rfl) q_3_1 rfl dX4_init_54 ?_
  refine a_alen (pc := 57) (q0 := 3) (t0 := 3) (v := 3) C rfl rfl rfl dX4_init_57 ?_
  refine a_ge_f (pc := 58) (tgt := 80) C dX4_init_58 rfl (by decide) ?_
  refine a_aload_n (pc := 61) (i := 0) C dX4_init_61 rfl rfl ?_
  refine a_getr (pc := 62) (q0 := 0) (j := 5) (ci := 4) (N := 7) (T := TX4) (Cn := RX4) C rfl rfl inlX4 (Nat.le_of_ble_eq_true rfl) q_3_1 rfl dX4_init_62 ?_
  refine a_iload_n (pc := 65) (i := 1) C dX4_init_65 rfl rfl ?_
  refine a_new (pc := 66) (ci := 1) (N := 14) (T := TX1) (Cn := RX1) (fs := [.null, .null, .null, .null, .null, .null, .null, .null, .null, .null, .null, .null, .null, .null]) (fun q16 => (h0, .inr (4, [.int 0, .ref q1, .ref q2, .ref (q6 0), .ref (q12 0), .ref q15, .int 0])) :: (q1, .inl (X.ac 0, 12, .inl (fun _ => 0))) :: (q2, .inl (X.ac 0, 12, .inl (fun _ => 0))) :: (q15, .inl (X.ac 3, 3, .inr (.inr (.inr (.inr (fun _ => none)))))) :: (orW X q6 ++ plW X q12 ++ [(q16, .inr (1, [.null, .null, .null, .null, .null, .null, .null, .null, .null, .null, .null, .null, .null, .null]))])) C rfl inlX1 tyX1_ok q_2_21 q_2_22 q_2_23 (fun j hj => by rcases (show j = 0 ∨ j = 1 ∨ j = 2 ∨ j = 3 ∨ j = 4 ∨ j = 5 ∨ j = 6 ∨ j = 7 ∨ j = 8 ∨ j = 9 ∨ j = 10 ∨ j = 11 ∨ j = 12 ∨ j = 13 by omega) with rfl | rfl | rfl | rfl | rfl | rfl | rfl | rfl | rfl | rfl | rfl | rfl | rfl | rfl <;> rfl) (Nat.le_of_ble_eq_true rfl) (Nat.le_of_ble_eq_true rfl) dX4_init_66 (fun _ => rfl) (fun q16 => ?_)
  refine a_dup (pc := 69) C dX4_init_69 rfl ?_
  refine a_init (pc := 70) (W0 := (h0, .inr (4, [.int 0, .ref q1, .ref q2, .ref (q6 0), .ref (q12 0), .ref q15, .int 0])) :: (q1, .inl (X.ac 0, 12, .inl (fun _ => 0))) :: (q2, .inl (X.ac 0, 12, .inl (fun _ => 0))) :: (q15, .inl (X.ac 3, 3, .inr (.inr (.inr (.inr (fun _ => none)))))) :: (orW X q6 ++ plW X q12)) C (fun sz => iX1_init X q16 sz) q_3_6 q_3_7 q_2_23 q_3_8 rfl hdX1_init ⟨Nat.le_of_ble_eq_true rfl, Nat.le_of_ble_eq_true rfl, rfl, rfl, Nat.le_of_ble_eq_true rfl, Nat.le_of_ble_eq_true rfl⟩ (Nat.le_of_ble_eq_true rfl) dX4_init_70 rfl (fun w17 hw18 => ?_)
  obtain ⟨q19, e20, p21⟩ := hw18
  subst e20
  refine a_perm (List.Perm.append_left _ p21) ?_
  refine a_eq (ws' := (h0, .inr (4, [.int 0, .ref q1, .ref q2, .ref (q6 0), .ref (q12 0), .ref q15, .int 0])) :: (q1, .inl (X.ac 0, 12, .inl (fun _ => 0))) :: (q2, .inl (X.ac 0, 12, .inl (fun _ => 0))) :: (q15, .inl (X.ac 3, 3, .inr (.inr (.inr (.inr (fun _ => none)))))) :: ((orW X q6 ++ plW X q12) ++ plW X q19)) rfl ?_
  refine a_aastoreM (pc := 73) (q0 := 3) (t0 := 3) (ci := 1) (n := 3) ((h0, .inr (4, [.int 0, .ref q1, .ref q2, .ref (q6 0), .ref (q12 0), .ref q15, .int 0])) :: (q1, .inl (X.ac 0, 12, .inl (fun _ => 0))) :: (q2, .inl (X.ac 0, 12, .inl (fun _ => 0))) :: (q15, .inl (X.ac 3, 3, .inr (.inr (.inr (.inr (va_up (fun _ => none) 0 (some (q19 0)))))))) :: ((orW X q6 ++ plW X q12) ++ plW X q19)) C rfl rfl (List.mem_cons_of_mem _ (List.mem_cons_of_mem _ (List.mem_cons_of_mem _ (List.mem_cons_of_mem _ (List.mem_append_right _ List.mem_cons_self))))) rfl (show vp_in 0 3 from vp_in_nI (n := 0) (by decide) (by decide)) dX4_init_73 rfl ?_
  refine a_iinc (pc := 74) (v := 1) C dX4_init_74 rfl (by decide) (Nat.le_of_ble_eq_true rfl) rfl ?_
  show GA X K _ _ _ _ _ _ _ [some (.ref h0), some (.int 1)] _
  refine a_goto (pc := 77) (tgt := 52) C dX4_init_77 rfl ?_
  refine a_iload_n (pc := 52) (i := 1) C dX4_init_52 rfl rfl ?_
  refine a_aload_n (pc := 53) (i := 0) C dX4_init_53 rfl rfl ?_
  refine a_getr (pc := 54) (q0 := 0) (j := 5) (ci := 4) (N := 7) (T := TX4) (Cn := RX4) C rfl rfl inlX4 (Nat.le_of_ble_eq_true rfl) q_3_1 rfl dX4_init_54 ?_
  refine a_alen (pc := 57) (q0 := 3) (t0 := 3) (v := 3) C rfl rfl rfl dX4_init_57 ?_
  refine a_ge_f (pc := 58) (tgt := 80) C dX4_init_58 rfl (by decide) ?_
  refine a_aload_n (pc := 61) (i := 0) C dX4_init_61 rfl rfl ?_
  refine a_getr (pc := 62) (q0 := 0) (j := 5) (ci := 4) (N := 7) (T := TX4) (Cn := RX4) C rfl rfl inlX4 (Nat.le_of_ble_eq_true rfl) q_3_1 rfl dX4_init_62 ?_
  refine a_iload_n (pc := 65) (i := 1) C dX4_init_65 rfl rfl ?_
  refine a_new (pc := 66) (ci := 1) (N := 14) (T := TX1) (Cn := RX1) (fs := [.null, .null, .null, .null, .null, .null, .null, .null, .null, .null, .null, .null, .null, .null]) (fun q22 => (h0, .inr (4, [.int 0, .ref q1, .ref q2, .ref (q6 0), .ref (q12 0), .ref q15, .int 0])) :: (q1, .inl (X.ac 0, 12, .inl (fun _ => 0))) :: (q2, .inl (X.ac 0, 12, .inl (fun _ => 0))) :: (q15, .inl (X.ac 3, 3, .inr (.inr (.inr (.inr (va_up (fun _ => none) 0 (some (q19 0)))))))) :: ((orW X q6 ++ plW X q12) ++ plW X q19 ++ [(q22, .inr (1, [.null, .null, .null, .null, .null, .null, .null, .null, .null, .null, .null, .null, .null, .null]))])) C rfl inlX1 tyX1_ok q_2_21 q_2_22 q_2_23 (fun j hj => by rcases (show j = 0 ∨ j = 1 ∨ j = 2 ∨ j = 3 ∨ j = 4 ∨ j = 5 ∨ j = 6 ∨ j = 7 ∨ j = 8 ∨ j = 9 ∨ j = 10 ∨ j = 11 ∨ j = 12 ∨ j = 13 by omega) with rfl | rfl | rfl | rfl | rfl | rfl | rfl | rfl | rfl | rfl | rfl | rfl | rfl | rfl <;> rfl) (Nat.le_of_ble_eq_true rfl) (Nat.le_of_ble_eq_true rfl) dX4_init_66 (fun _ => rfl) (fun q22 => ?_)
  refine a_dup (pc := 69) C dX4_init_69 rfl ?_
  refine a_init (pc := 70) (W0 := (h0, .inr (4, [.int 0, .ref q1, .ref q2, .ref (q6 0), .ref (q12 0), .ref q15, .int 0])) :: (q1, .inl (X.ac 0, 12, .inl (fun _ => 0))) :: (q2, .inl (X.ac 0, 12, .inl (fun _ => 0))) :: (q15, .inl (X.ac 3, 3, .inr (.inr (.inr (.inr (va_up (fun _ => none) 0 (some (q19 0)))))))) :: ((orW X q6 ++ plW X q12) ++ plW X q19)) C (fun sz => iX1_init X q22 sz) q_3_6 q_3_7 q_2_23 q_3_8 rfl hdX1_init ⟨Nat.le_of_ble_eq_true rfl, Nat.le_of_ble_eq_true rfl, rfl, rfl, Nat.le_of_ble_eq_true rfl, Nat.le_of_ble_eq_true rfl⟩ (Nat.le_of_ble_eq_true rfl) dX4_init_70 rfl (fun w23 hw24 => ?_)
  obtain ⟨q25, e26, p27⟩ := hw24
  subst e26
  refine a_perm (List.Perm.append_left _ p27) ?_
  refine a_eq (ws' := (h0, .inr (4, [.int 0, .ref q1, .ref q2, .ref (q6 0), .ref (q12 0), .ref q15, .int 0])) :: (q1, .inl (X.ac 0, 12, .inl (fun _ => 0))) :: (q2, .inl (X.ac 0, 12, .inl (fun _ => 0))) :: (q15, .inl (X.ac 3, 3, .inr (.inr (.inr (.inr (va_up (fun _ => none) 0 (some (q19 0)))))))) :: (((orW X q6 ++ plW X q12) ++ plW X q19) ++ plW X q25)) rfl ?_
  refine a_aastoreM (pc := 73) (q0 := 3) (t0 := 3) (ci := 1) (n := 3) ((h0, .inr (4, [.int 0, .ref q1, .ref q2, .ref (q6 0), .ref (q12 0), .ref q15, .int 0])) :: (q1, .inl (X.ac 0, 12, .inl (fun _ => 0))) :: (q2, .inl (X.ac 0, 12, .inl (fun _ => 0))) :: (q15, .inl (X.ac 3, 3, .inr (.inr (.inr (.inr (va_up (va_up (fun _ => none) 0 (some (q19 0))) 1 (some (q25 0)))))))) :: (((orW X q6 ++ plW X q12) ++ plW X q19) ++ plW X q25)) C rfl rfl (List.mem_cons_of_mem _ (List.mem_cons_of_mem _ (List.mem_cons_of_mem _ (List.mem_cons_of_mem _ (List.mem_append_right _ List.mem_cons_self))))) rfl (show vp_in 1 3 from vp_in_nI (n := 1) (by decide) (by decide)) dX4_init_73 rfl ?_
  refine a_iinc (pc := 74) (v := 2) C dX4_init_74 rfl (by decide) (Nat.le_of_ble_eq_true rfl) rfl ?_
  show GA X K _ _ _ _ _ _ _ [some (.ref h0), some (.int 2)] _
  refine a_goto (pc := 77) (tgt := 52) C dX4_init_77 rfl ?_
  refine a_iload_n (pc := 52) (i := 1) C dX4_init_52 rfl rfl ?_
  refine a_aload_n (pc := 53) (i := 0) C dX4_init_53 rfl rfl ?_
  refine a_getr (pc := 54) (q0 := 0) (j := 5) (ci := 4) (N := 7) (T := TX4) (Cn := RX4) C rfl rfl inlX4 (Nat.le_of_ble_eq_true rfl) q_3_1 rfl dX4_init_54 ?_
  refine a_alen (pc := 57) (q0 := 3) (t0 := 3) (v := 3) C rfl rfl rfl dX4_init_57 ?_
  refine a_ge_f (pc := 58) (tgt := 80) C dX4_init_58 rfl (by decide) ?_
  refine a_aload_n (pc := 61) (i := 0) C dX4_init_61 rfl rfl ?_
  refine a_getr (pc := 62) (q0 := 0) (j := 5) (ci := 4) (N := 7) (T := TX4) (Cn := RX4) C rfl rfl inlX4 (Nat.le_of_ble_eq_true rfl) q_3_1 rfl dX4_init_62 ?_
  refine a_iload_n (pc := 65) (i := 1) C dX4_init_65 rfl rfl ?_
  refine a_new (pc := 66) (ci := 1) (N := 14) (T := TX1) (Cn := RX1) (fs := [.null, .null, .null, .null, .null, .null, .null, .null, .null, .null, .null, .null, .null, .null]) (fun q28 => (h0, .inr (4, [.int 0, .ref q1, .ref q2, .ref (q6 0), .ref (q12 0), .ref q15, .int 0])) :: (q1, .inl (X.ac 0, 12, .inl (fun _ => 0))) :: (q2, .inl (X.ac 0, 12, .inl (fun _ => 0))) :: (q15, .inl (X.ac 3, 3, .inr (.inr (.inr (.inr (va_up (va_up (fun _ => none) 0 (some (q19 0))) 1 (some (q25 0)))))))) :: (((orW X q6 ++ plW X q12) ++ plW X q19) ++ plW X q25 ++ [(q28, .inr (1, [.null, .null, .null, .null, .null, .null, .null, .null, .null, .null, .null, .null, .null, .null]))])) C rfl inlX1 tyX1_ok q_2_21 q_2_22 q_2_23 (fun j hj => by rcases (show j = 0 ∨ j = 1 ∨ j = 2 ∨ j = 3 ∨ j = 4 ∨ j = 5 ∨ j = 6 ∨ j = 7 ∨ j = 8 ∨ j = 9 ∨ j = 10 ∨ j = 11 ∨ j = 12 ∨ j = 13 by omega) with rfl | rfl | rfl | rfl | rfl | rfl | rfl | rfl | rfl | rfl | rfl | rfl | rfl | rfl <;> rfl) (Nat.le_of_ble_eq_true rfl) (Nat.le_of_ble_eq_true rfl) dX4_init_66 (fun _ => rfl) (fun q28 => ?_)
  refine a_dup (pc := 69) C dX4_init_69 rfl ?_
  refine a_init (pc := 70) (W0 := (h0, .inr (4, [.int 0, .ref q1, .ref q2, .ref (q6 0), .ref (q12 0), .ref q15, .int 0])) :: (q1, .inl (X.ac 0, 12, .inl (fun _ => 0))) :: (q2, .inl (X.ac 0, 12, .inl (fun _ => 0))) :: (q15, .inl (X.ac 3, 3, .inr (.inr (.inr (.inr (va_up (va_up (fun _ => none) 0 (some (q19 0))) 1 (some (q25 0)))))))) :: (((orW X q6 ++ plW X q12) ++ plW X q19) ++ plW X q25)) C (fun sz => iX1_init X q28 sz) q_3_6 q_3_7 q_2_23 q_3_8 rfl hdX1_init ⟨Nat.le_of_ble_eq_true rfl, Nat.le_of_ble_eq_true rfl, rfl, rfl, Nat.le_of_ble_eq_true rfl, Nat.le_of_ble_eq_true rfl⟩ (Nat.le_of_ble_eq_true rfl) dX4_init_70 rfl (fun w29 hw30 => ?_)
  obtain ⟨q31, e32, p33⟩ := hw30
  subst e32
  refine a_perm (List.Perm.append_left _ p33) ?_
  refine a_eq (ws' := (h0, .inr (4, [.int 0, .ref q1, .ref q2, .ref (q6 0), .ref (q12 0), .ref q15, .int 0])) :: (q1, .inl (X.ac 0, 12, .inl (fun _ => 0))) :: (q2, .inl (X.ac 0, 12, .inl (fun _ => 0))) :: (q15, .inl (X.ac 3, 3, .inr (.inr (.inr (.inr (va_up (va_up (fun _ => none) 0 (some (q19 0))) 1 (some (q25 0)))))))) :: ((((orW X q6 ++ plW X q12) ++ plW X q19) ++ plW X q25) ++ plW X q31)) rfl ?_
  refine a_aastoreM (pc := 73) (q0 := 3) (t0 := 3) (ci := 1) (n := 3) ((h0, .inr (4, [.int 0, .ref q1, .ref q2, .ref (q6 0), .ref (q12 0), .ref q15, .int 0])) :: (q1, .inl (X.ac 0, 12, .inl (fun _ => 0))) :: (q2, .inl (X.ac 0, 12, .inl (fun _ => 0))) :: (q15, .inl (X.ac 3, 3, .inr (.inr (.inr (.inr (va_up (va_up (va_up (fun _ => none) 0 (some (q19 0))) 1 (some (q25 0))) 2 (some (q31 0)))))))) :: ((((orW X q6 ++ plW X q12) ++ plW X q19) ++ plW X q25) ++ plW X q31)) C rfl rfl (List.mem_cons_of_mem _ (List.mem_cons_of_mem _ (List.mem_cons_of_mem _ (List.mem_cons_of_mem _ (List.mem_append_right _ List.mem_cons_self))))) rfl (show vp_in 2 3 from vp_in_nI (n := 2) (by decide) (by decide)) dX4_init_73 rfl ?_
  refine a_iinc (pc := 74) (v := 3) C dX4_init_74 rfl (by decide) (Nat.le_of_ble_eq_true rfl) rfl ?_
  show GA X K _ _ _ _ _ _ _ [some (.ref h0), some (.int 3)] _
  refine a_goto (pc := 77) (tgt := 52) C dX4_init_77 rfl ?_
  refine a_iload_n (pc := 52) (i := 1) C dX4_init_52 rfl rfl ?_
  refine a_aload_n (pc := 53) (i := 0) C dX4_init_53 rfl rfl ?_
  refine a_getr (pc := 54) (q0 := 0) (j := 5) (ci := 4) (N := 7) (T := TX4) (Cn := RX4) C rfl rfl inlX4 (Nat.le_of_ble_eq_true rfl) q_3_1 rfl dX4_init_54 ?_
  refine a_alen (pc := 57) (q0 := 3) (t0 := 3) (v := 3) C rfl rfl rfl dX4_init_57 ?_
  refine a_ge_t (pc := 58) (tgt := 80) C dX4_init_58 rfl (by decide) ?_
  exact a_vret (pc := 80) C hr hz dX4_init_80 (Nat.le_of_ble_eq_true rfl) (Nat.le_of_ble_eq_true rfl) ⟨fun k => if k < 1 then h0 else if k < 2 then q1 else if k < 3 then q2 else if k < 5 then q6 (k - 3) else if k < 21 then q12 (k - 5) else if k < 22 then q15 else if k < 38 then q19 (k - 22) else if k < 54 then q25 (k - 38) else if k < 70 then q31 (k - 54) else 0, rfl, List.Perm.refl _⟩
theorem dX6_init_0 : decode cX6_init 0 = .ok (.aload_n 0, 1) := by decide +kernel
theorem dX6_init_1 : decode cX6_init 1 = .ok (.invokespecial 3, 3) := by decide +kernel
theorem dX6_init_4 : decode cX6_init 4 = .ok (.aload_n 0, 1) := by decide +kernel
theorem dX6_init_5 : decode cX6_init 5 = .ok (.new 9, 3) := by decide +kernel
theorem dX6_init_8 : decode cX6_init 8 = .ok (.dup, 1) := by decide +kernel
theorem dX6_init_9 : decode cX6_init 9 = .ok (.invokespecial 11, 3) := by decide +kernel
theorem dX6_init_12 : decode cX6_init 12 = .ok (.putfield 12, 3) := by decide +kernel
theorem dX6_init_15 : decode cX6_init 15 = .ok (.aload_n 0, 1) := by decide +kernel
theorem dX6_init_16 : decode cX6_init 16 = .ok (.new 18, 3) := by decide +kernel
theorem dX6_init_19 : decode cX6_init 19 = .ok (.dup, 1) := by decide +kernel
theorem dX6_init_20 : decode cX6_init 20 = .ok (.invokespecial 20, 3) := by decide +kernel
theorem dX6_init_23 : decode cX6_init 23 = .ok (.putfield 21, 3) := by decide +kernel
theorem dX6_init_26 : decode cX6_init 26 = .ok (.return_, 1) := by decide +kernel
abbrev rmX6_init : Room := { frames := 10, cells := 18, slots := 326, locals := 400 }
theorem hdX6_init : yX6_init.cls ≠ "java/lang/invoke/MethodHandle" ∧ yX6_init.cls ≠ "java/lang/invoke/VarHandle" ∧ (parseMethodDescriptor yX6_init.desc).map (fun d => d.parameters.length) = some 0 := by decide +kernel
theorem iX6_init (X : Xc) (h0 sz : Nat) : Met X.l yX6_init (wsM yX6_init cX6_init 1 none) rmX6_init (va_Pc [.ref h0] (PA X [(h0, .inr (6, [.null, .null, .int 0, .int 0]))] sz)) (QA X (h0, .inr (6, [.null, .null, .int 0, .int 0])) sz (fun w => ∃ q : Nat → Nat, q 0 = h0 ∧ w.Perm (rdW X q))) 18 326 (va_A [(h0, .inr (6, [.null, .null, .int 0, .int 0]))] sz) := by
  refine ct_of (own := RX6) (lo := [some (.ref h0)]) (by decide) rfl (Nat.le_of_ble_eq_true rfl) rfl (fun K C hr hin hz => ?_)
  refine a_aload_n (pc := 0) (i := 0) C dX6_init_0 rfl rfl ?_
  refine a_obj (pc := 1) C q_5_11 q_1_11 q_1_12 (Nat.le_of_ble_eq_true rfl) (Nat.le_of_ble_eq_true rfl) dX6_init_1 ?_
  refine a_aload_n (pc := 4) (i := 0) C dX6_init_4 rfl rfl ?_
  refine a_new (pc := 5) (ci := 5) (N := 2) (T := TX5) (Cn := RX5) (fs := [.null, .int 0]) (fun q1 => [(h0, .inr (6, [.null, .null, .int 0, .int 0])), (q1, .inr (5, [.null, .int 0]))]) C rfl inlX5 tyX5_ok q_5_12 q_1_23 q_2_0 (fun j hj => by rcases (show j = 0 ∨ j = 1 by omega) with rfl | rfl <;> rfl) (Nat.le_of_ble_eq_true rfl) (Nat.le_of_ble_eq_true rfl) dX6_init_5 (fun _ => rfl) (fun q1 => ?_)
  refine a_dup (pc := 8) C dX6_init_8 rfl ?_
  refine a_initN (pc := 9) (W0 := [(h0, .inr (6, [.null, .null, .int 0, .int 0]))]) C (fun sz => iX5_init X q1 sz) (List.mem_of_getElem? (i := 7) rfl) q_5_5 q_2_0 q_5_6 rfl hdX5_init ⟨Nat.le_of_ble_eq_true rfl, Nat.le_of_ble_eq_true rfl, rfl, rfl, Nat.le_of_ble_eq_true rfl, Nat.le_of_ble_eq_true rfl⟩ (Nat.le_of_ble_eq_true rfl) dX6_init_9 rfl (fun w2 hw3 => ?_)
  obtain ⟨q4, e5, p6⟩ := hw3
  subst e5
  refine a_perm (List.Perm.append_left _ p6) ?_
  refine a_eq (ws' := (h0, .inr (6, [.null, .null, .int 0, .int 0])) :: (txW X q4)) rfl ?_
  refine a_putF (pc := 12) (q0 := 0) (j := 0) (ci := 6) (N := 4) (T := TX6) (Cn := RX6) ((h0, .inr (6, [.ref (q4 0), .null, .int 0, .int 0])) :: (txW X q4)) C hin rfl rfl inlX6 tyX6_ok nmX6 (Nat.le_of_ble_eq_true rfl) q_5_13 rfl rfl rfl rfl (Nat.le_of_ble_eq_true rfl) dX6_init_12 rfl ?_
  refine a_aload_n (pc := 15) (i := 0) C dX6_init_15 rfl rfl ?_
  refine a_new (pc := 16) (ci := 1) (N := 14) (T := TX1) (Cn := RX1) (fs := [.null, .null, .null, .null, .null, .null, .null, .null, .null, .null, .null, .null, .null, .null]) (fun q7 => (h0, .inr (6, [.ref (q4 0), .null, .int 0, .int 0])) :: (txW X q4 ++ [(q7, .inr (1, [.null, .null, .null, .null, .null, .null, .null, .null, .null, .null, .null, .null, .null, .null]))])) C rfl inlX1 tyX1_ok q_5_14 q_2_22 q_2_23 (fun j hj => by rcases (show j = 0 ∨ j = 1 ∨ j = 2 ∨ j = 3 ∨ j = 4 ∨ j = 5 ∨ j = 6 ∨ j = 7 ∨ j = 8 ∨ j = 9 ∨ j = 10 ∨ j = 11 ∨ j = 12 ∨ j = 13 by omega) with rfl | rfl | rfl | rfl | rfl | rfl | rfl | rfl | rfl | rfl | rfl | rfl | rfl | rfl <;> rfl) (Nat.le_of_ble_eq_true rfl) (Nat.le_of_ble_eq_true rfl) dX6_init_16 (fun _ => rfl) (fun q7 => ?_)
  refine a_dup (pc := 19) C dX6_init_19 rfl ?_
  refine a_init (pc := 20) (W0 := (h0, .inr (6, [.ref (q4 0), .null, .int 0, .int 0])) :: (txW X q4)) C (fun sz => iX1_init X q7 sz) q_5_16 q_3_7 q_2_23 q_3_8 rfl hdX1_init ⟨Nat.le_of_ble_eq_true rfl, Nat.le_of_ble_eq_true rfl, rfl, rfl, Nat.le_of_ble_eq_true rfl, Nat.le_of_ble_eq_true rfl⟩ (Nat.le_of_ble_eq_true rfl) dX6_init_20 rfl (fun w8 hw9 => ?_)
  obtain ⟨q10, e11, p12⟩ := hw9
  subst e11
  refine a_perm (List.Perm.append_left _ p12) ?_
  refine a_eq (ws' := (h0, .inr (6, [.ref (q4 0), .null, .int 0, .int 0])) :: (txW X q4 ++ plW X q10)) rfl ?_
  refine a_putF (pc := 23) (q0 := 0) (j := 1) (ci := 6) (N := 4) (T := TX6) (Cn := RX6) ((h0, .inr (6, [.ref (q4 0), .ref (q10 0), .int 0, .int 0])) :: (txW X q4 ++ plW X q10)) C hin rfl rfl inlX6 tyX6_ok nmX6 (Nat.le_of_ble_eq_true rfl) q_5_15 rfl rfl rfl rfl (Nat.le_of_ble_eq_true rfl) dX6_init_23 rfl ?_
  exact a_vret (pc := 26) C hr hz dX6_init_26 (Nat.le_of_ble_eq_true rfl) (Nat.le_of_ble_eq_true rfl) ⟨fun k => if k < 1 then h0 else if k < 3 then q4 (k - 1) else if k < 19 then q10 (k - 3) else 0, rfl, List.Perm.refl _⟩
theorem dX7_init_0 : decode cX7_init 0 = .ok (.aload_n 0, 1) := by decide +kernel
theorem dX7_init_1 : decode cX7_init 1 = .ok (.invokespecial 3, 3) := by decide +kernel
theorem dX7_init_4 : decode cX7_init 4 = .ok (.aload_n 0, 1) := by decide +kernel
theorem dX7_init_5 : decode cX7_init 5 = .ok (.new 9, 3) := by decide +kernel
theorem dX7_init_8 : decode cX7_init 8 = .ok (.dup, 1) := by decide +kernel
theorem dX7_init_9 : decode cX7_init 9 = .ok (.invokespecial 11, 3) := by decide +kernel
theorem dX7_init_12 : decode cX7_init 12 = .ok (.putfield 12, 3) := by decide +kernel
theorem dX7_init_15 : decode cX7_init 15 = .ok (.return_, 1) := by decide +kernel
abbrev rmX7_init : Room := { frames := 6, cells := 2, slots := 122, locals := 200 }
theorem hdX7_init : yX7_init.cls ≠ "java/lang/invoke/MethodHandle" ∧ yX7_init.cls ≠ "java/lang/invoke/VarHandle" ∧ (parseMethodDescriptor yX7_init.desc).map (fun d => d.parameters.length) = some 0 := by decide +kernel
theorem iX7_init (X : Xc) (h0 sz : Nat) : Met X.l yX7_init (wsM yX7_init cX7_init 1 none) rmX7_init (va_Pc [.ref h0] (PA X [(h0, .inr (7, [.null]))] sz)) (QA X (h0, .inr (7, [.null])) sz (fun w => ∃ q : Nat → Nat, q 0 = h0 ∧ w.Perm (wrW X q))) 2 122 (va_A [(h0, .inr (7, [.null]))] sz) := by
  refine ct_of (own := RX7) (lo := [some (.ref h0)]) (by decide) rfl (Nat.le_of_ble_eq_true rfl) rfl (fun K C hr hin hz => ?_)
  refine a_aload_n (pc := 0) (i := 0) C dX7_init_0 rfl rfl ?_
  refine a_obj (pc := 1) C q_5_19 q_1_11 q_1_12 (Nat.le_of_ble_eq_true rfl) (Nat.le_of_ble_eq_true rfl) dX7_init_1 ?_
  refine a_aload_n (pc := 4) (i := 0) C dX7_init_4 rfl rfl ?_
  refine a_new (pc := 5) (ci := 5) (N := 2) (T := TX5) (Cn := RX5) (fs := [.null, .int 0]) (fun q1 => [(h0, .inr (7, [.null])), (q1, .inr (5, [.null, .int 0]))]) C rfl inlX5 tyX5_ok q_5_20 q_1_23 q_2_0 (fun j hj => by rcases (show j = 0 ∨ j = 1 by omega) with rfl | rfl <;> rfl) (Nat.le_of_ble_eq_true rfl) (Nat.le_of_ble_eq_true rfl) dX7_init_5 (fun _ => rfl) (fun q1 => ?_)
  refine a_dup (pc := 8) C dX7_init_8 rfl ?_
  refine a_initN (pc := 9) (W0 := [(h0, .inr (7, [.null]))]) C (fun sz => iX5_init X q1 sz) (List.mem_of_getElem? (i := 8) rfl) q_5_5 q_2_0 q_5_6 rfl hdX5_init ⟨Nat.le_of_ble_eq_true rfl, Nat.le_of_ble_eq_true rfl, rfl, rfl, Nat.le_of_ble_eq_true rfl, Nat.le_of_ble_eq_true rfl⟩ (Nat.le_of_ble_eq_true rfl) dX7_init_9 rfl (fun w2 hw3 => ?_)
  obtain ⟨q4, e5, p6⟩ := hw3
  subst e5
  refine a_perm (List.Perm.append_left _ p6) ?_
  refine a_eq (ws' := (h0, .inr (7, [.null])) :: (txW X q4)) rfl ?_
  refine a_putF (pc := 12) (q0 := 0) (j := 0) (ci := 7) (N := 1) (T := TX7) (Cn := RX7) ((h0, .inr (7, [.ref (q4 0)])) :: (txW X q4)) C hin rfl rfl inlX7 tyX7_ok nmX7 (Nat.le_of_ble_eq_true rfl) q_5_21 rfl rfl rfl rfl (Nat.le_of_ble_eq_true rfl) dX7_init_12 rfl ?_
  exact a_vret (pc := 15) C hr hz dX7_init_15 (Nat.le_of_ble_eq_true rfl) (Nat.le_of_ble_eq_true rfl) ⟨fun k => if k < 1 then h0 else if k < 3 then q4 (k - 1) else 0, rfl, List.Perm.refl _⟩
theorem dX9_init_0 : decode cX9_init 0 = .ok (.aload_n 0, 1) := by decide +kernel
theorem dX9_init_1 : decode cX9_init 1 = .ok (.invokespecial 1, 3) := by decide +kernel
theorem dX9_init_4 : decode cX9_init 4 = .ok (.aload_n 0, 1) := by decide +kernel
theorem dX9_init_5 : decode cX9_init 5 = .ok (.sipush 921, 3) := by decide +kernel
theorem dX9_init_8 : decode cX9_init 8 = .ok (.newarray .int, 2) := by decide +kernel
theorem dX9_init_10 : decode cX9_init 10 = .ok (.putfield 7, 3) := by decide +kernel
theorem dX9_init_13 : decode cX9_init 13 = .ok (.aload_n 0, 1) := by decide +kernel
theorem dX9_init_14 : decode cX9_init 14 = .ok (.sipush 4605, 3) := by decide +kernel
theorem dX9_init_17 : decode cX9_init 17 = .ok (.newarray .int, 2) := by decide +kernel
theorem dX9_init_19 : decode cX9_init 19 = .ok (.putfield 13, 3) := by decide +kernel
theorem dX9_init_22 : decode cX9_init 22 = .ok (.aload_n 0, 1) := by decide +kernel
theorem dX9_init_23 : decode cX9_init 23 = .ok (.bipush 120, 2) := by decide +kernel
theorem dX9_init_25 : decode cX9_init 25 = .ok (.newarray .int, 2) := by decide +kernel
theorem dX9_init_27 : decode cX9_init 27 = .ok (.putfield 16, 3) := by decide +kernel
theorem dX9_init_30 : decode cX9_init 30 = .ok (.aload_n 0, 1) := by decide +kernel
theorem dX9_init_31 : decode cX9_init 31 = .ok (.bipush 24, 2) := by decide +kernel
theorem dX9_init_33 : decode cX9_init 33 = .ok (.newarray .int, 2) := by decide +kernel
theorem dX9_init_35 : decode cX9_init 35 = .ok (.putfield 19, 3) := by decide +kernel
theorem dX9_init_38 : decode cX9_init 38 = .ok (.aload_n 0, 1) := by decide +kernel
theorem dX9_init_39 : decode cX9_init 39 = .ok (.bipush 24, 2) := by decide +kernel
theorem dX9_init_41 : decode cX9_init 41 = .ok (.newarray .boolean, 2) := by decide +kernel
theorem dX9_init_43 : decode cX9_init 43 = .ok (.putfield 22, 3) := by decide +kernel
theorem dX9_init_46 : decode cX9_init 46 = .ok (.aload_n 0, 1) := by decide +kernel
theorem dX9_init_47 : decode cX9_init 47 = .ok (.bipush 48, 2) := by decide +kernel
theorem dX9_init_49 : decode cX9_init 49 = .ok (.newarray .int, 2) := by decide +kernel
theorem dX9_init_51 : decode cX9_init 51 = .ok (.putfield 26, 3) := by decide +kernel
theorem dX9_init_54 : decode cX9_init 54 = .ok (.aload_n 0, 1) := by decide +kernel
theorem dX9_init_55 : decode cX9_init 55 = .ok (.bipush 96, 2) := by decide +kernel
theorem dX9_init_57 : decode cX9_init 57 = .ok (.newarray .int, 2) := by decide +kernel
theorem dX9_init_59 : decode cX9_init 59 = .ok (.putfield 29, 3) := by decide +kernel
theorem dX9_init_62 : decode cX9_init 62 = .ok (.aload_n 0, 1) := by decide +kernel
theorem dX9_init_63 : decode cX9_init 63 = .ok (.bipush 24, 2) := by decide +kernel
theorem dX9_init_65 : decode cX9_init 65 = .ok (.newarray .int, 2) := by decide +kernel
theorem dX9_init_67 : decode cX9_init 67 = .ok (.putfield 32, 3) := by decide +kernel
theorem dX9_init_70 : decode cX9_init 70 = .ok (.aload_n 0, 1) := by decide +kernel
theorem dX9_init_71 : decode cX9_init 71 = .ok (.bipush 24, 2) := by decide +kernel
theorem dX9_init_73 : decode cX9_init 73 = .ok (.newarray .boolean, 2) := by decide +kernel
theorem dX9_init_75 : decode cX9_init 75 = .ok (.putfield 35, 3) := by decide +kernel
theorem dX9_init_78 : decode cX9_init 78 = .ok (.aload_n 0, 1) := by decide +kernel
theorem dX9_init_79 : decode cX9_init 79 = .ok (.sipush 130, 3) := by decide +kernel
theorem dX9_init_82 : decode cX9_init 82 = .ok (.newarray .int, 2) := by decide +kernel
theorem dX9_init_84 : decode cX9_init 84 = .ok (.putfield 38, 3) := by decide +kernel
theorem dX9_init_87 : decode cX9_init 87 = .ok (.aload_n 0, 1) := by decide +kernel
theorem dX9_init_88 : decode cX9_init 88 = .ok (.sipush 130, 3) := by decide +kernel
theorem dX9_init_91 : decode cX9_init 91 = .ok (.newarray .int, 2) := by decide +kernel
theorem dX9_init_93 : decode cX9_init 93 = .ok (.putfield 41, 3) := by decide +kernel
theorem dX9_init_96 : decode cX9_init 96 = .ok (.aload_n 0, 1) := by decide +kernel
theorem dX9_init_97 : decode cX9_init 97 = .ok (.sipush 130, 3) := by decide +kernel
theorem dX9_init_100 : decode cX9_init 100 = .ok (.newarray .int, 2) := by decide +kernel
theorem dX9_init_102 : decode cX9_init 102 = .ok (.putfield 44, 3) := by decide +kernel
theorem dX9_init_105 : decode cX9_init 105 = .ok (.aload_n 0, 1) := by decide +kernel
theorem dX9_init_106 : decode cX9_init 106 = .ok (.sipush 400, 3) := by decide +kernel
theorem dX9_init_109 : decode cX9_init 109 = .ok (.newarray .int, 2) := by decide +kernel
theorem dX9_init_111 : decode cX9_init 111 = .ok (.putfield 47, 3) := by decide +kernel
theorem dX9_init_114 : decode cX9_init 114 = .ok (.iconst 0, 1) := by decide +kernel
theorem dX9_init_115 : decode cX9_init 115 = .ok (.istore_n 1, 1) := by decide +kernel
theorem dX9_init_116 : decode cX9_init 116 = .ok (.iload_n 1, 1) := by decide +kernel
theorem dX9_init_117 : decode cX9_init 117 = .ok (.iconst 5, 1) := by decide +kernel
theorem dX9_init_118 : decode cX9_init 118 = .ok (.if_icmp .ge 25, 3) := by decide +kernel
theorem dX9_init_121 : decode cX9_init 121 = .ok (.aload_n 0, 1) := by decide +kernel
theorem dX9_init_122 : decode cX9_init 122 = .ok (.getfield 7, 3) := by decide +kernel
theorem dX9_init_125 : decode cX9_init 125 = .ok (.sipush 216, 3) := by decide +kernel
theorem dX9_init_128 : decode cX9_init 128 = .ok (.bipush 6, 2) := by decide +kernel
theorem dX9_init_130 : decode cX9_init 130 = .ok (.iload_n 1, 1) := by decide +kernel
theorem dX9_init_131 : decode cX9_init 131 = .ok (.imul, 1) := by decide +kernel
theorem dX9_init_132 : decode cX9_init 132 = .ok (.iadd, 1) := by decide +kernel
theorem dX9_init_133 : decode cX9_init 133 = .ok (.iconst 5, 1) := by decide +kernel
theorem dX9_init_134 : decode cX9_init 134 = .ok (.iadd, 1) := by decide +kernel
theorem dX9_init_135 : decode cX9_init 135 = .ok (.iconst (-1), 1) := by decide +kernel
theorem dX9_init_136 : decode cX9_init 136 = .ok (.iastore, 1) := by decide +kernel
theorem dX9_init_137 : decode cX9_init 137 = .ok (.iinc 1 1, 3) := by decide +kernel
theorem dX9_init_140 : decode cX9_init 140 = .ok (.goto (-24), 3) := by decide +kernel
theorem dX9_init_143 : decode cX9_init 143 = .ok (.aload_n 0, 1) := by decide +kernel
theorem dX9_init_144 : decode cX9_init 144 = .ok (.getfield 7, 3) := by decide +kernel
theorem dX9_init_147 : decode cX9_init 147 = .ok (.sipush 216, 3) := by decide +kernel
theorem dX9_init_150 : decode cX9_init 150 = .ok (.iconst 1, 1) := by decide +kernel
theorem dX9_init_151 : decode cX9_init 151 = .ok (.iastore, 1) := by decide +kernel
theorem dX9_init_152 : decode cX9_init 152 = .ok (.aload_n 0, 1) := by decide +kernel
theorem dX9_init_153 : decode cX9_init 153 = .ok (.getfield 7, 3) := by decide +kernel
theorem dX9_init_156 : decode cX9_init 156 = .ok (.sipush 219, 3) := by decide +kernel
theorem dX9_init_159 : decode cX9_init 159 = .ok (.bipush 120, 2) := by decide +kernel
theorem dX9_init_161 : decode cX9_init 161 = .ok (.iastore, 1) := by decide +kernel
theorem dX9_init_162 : decode cX9_init 162 = .ok (.aload_n 0, 1) := by decide +kernel
theorem dX9_init_163 : decode cX9_init 163 = .ok (.getfield 7, 3) := by decide +kernel
theorem dX9_init_166 : decode cX9_init 166 = .ok (.sipush 220, 3) := by decide +kernel
theorem dX9_init_169 : decode cX9_init 169 = .ok (.bipush 60, 2) := by decide +kernel
theorem dX9_init_171 : decode cX9_init 171 = .ok (.iastore, 1) := by decide +kernel
theorem dX9_init_172 : decode cX9_init 172 = .ok (.iconst 0, 1) := by decide +kernel
theorem dX9_init_173 : decode cX9_init 173 = .ok (.istore_n 1, 1) := by decide +kernel
theorem dX9_init_174 : decode cX9_init 174 = .ok (.iload_n 1, 1) := by decide +kernel
theorem dX9_init_175 : decode cX9_init 175 = .ok (.bipush 12, 2) := by decide +kernel
theorem dX9_init_177 : decode cX9_init 177 = .ok (.if_icmp .ge 21, 3) := by decide +kernel
theorem dX9_init_180 : decode cX9_init 180 = .ok (.aload_n 0, 1) := by decide +kernel
theorem dX9_init_181 : decode cX9_init 181 = .ok (.getfield 7, 3) := by decide +kernel
theorem dX9_init_184 : decode cX9_init 184 = .ok (.bipush 6, 2) := by decide +kernel
theorem dX9_init_186 : decode cX9_init 186 = .ok (.iload_n 1, 1) := by decide +kernel
theorem dX9_init_187 : decode cX9_init 187 = .ok (.imul, 1) := by decide +kernel
theorem dX9_init_188 : decode cX9_init 188 = .ok (.iconst 3, 1) := by decide +kernel
theorem dX9_init_189 : decode cX9_init 189 = .ok (.iadd, 1) := by decide +kernel
theorem dX9_init_190 : decode cX9_init 190 = .ok (.iconst (-1), 1) := by decide +kernel
theorem dX9_init_191 : decode cX9_init 191 = .ok (.iastore, 1) := by decide +kernel
theorem dX9_init_192 : decode cX9_init 192 = .ok (.iinc 1 1, 3) := by decide +kernel
theorem dX9_init_195 : decode cX9_init 195 = .ok (.goto (-21), 3) := by decide +kernel
theorem dX9_init_198 : decode cX9_init 198 = .ok (.return_, 1) := by decide +kernel
abbrev rmX9_init : Room := { frames := 2, cells := 13, slots := 6676, locals := 60 }
theorem hdX9_init : yX9_init.cls ≠ "java/lang/invoke/MethodHandle" ∧ yX9_init.cls ≠ "java/lang/invoke/VarHandle" ∧ (parseMethodDescriptor yX9_init.desc).map (fun d => d.parameters.length) = some 0 := by decide +kernel
def nowI : Nat → Int32 := (upd (upd (upd (upd (upd (upd (upd (upd (upd (upd (upd (upd (upd (upd (upd (upd (upd (upd (upd (upd (fun _ => 0) 221 (-1)) 227 (-1)) 233 (-1)) 239 (-1)) 245 (-1)) 216 1) 219 120) 220 60) 3 (-1)) 9 (-1)) 15 (-1)) 21 (-1)) 27 (-1)) 33 (-1)) 39 (-1)) 45 (-1)) 51 (-1)) 57 (-1)) 63 (-1)) 69 (-1))
def moW (X : Xc) (q : Nat → Nat) : va_W := [(q 0, .inr (9, [.ref (q 1), .ref (q 2), .int 0, .int 0, .ref (q 3), .int 0, .ref (q 4), .ref (q 5), .ref (q 6), .ref (q 7), .ref (q 8), .ref (q 9), .int 0, .int 0, .int 0, .int 0, .int 0, .ref (q 10), .ref (q 11), .int 0, .int 0, .int 0, .int 0, .ref (q 12), .ref (q 13), .int 0, .long 0])), (q 1, .inl (X.ac 0, 921, .inl nowI)), (q 2, .inl (X.ac 0, 4605, .inl (fun _ => 0))), (q 3, .inl (X.ac 0, 120, .inl (fun _ => 0))), (q 4, .inl (X.ac 0, 24, .inl (fun _ => 0))), (q 5, .inl (X.ac 1, 24, .inl (fun _ => 0))), (q 6, .inl (X.ac 0, 48, .inl (fun _ => 0))), (q 7, .inl (X.ac 0, 96, .inl (fun _ => 0))), (q 8, .inl (X.ac 0, 24, .inl (fun _ => 0))), (q 9, .inl (X.ac 1, 24, .inl (fun _ => 0))), (q 10, .inl (X.ac 0, 130, .inl (fun _ => 0))), (q 11, .inl (X.ac 0, 130, .inl (fun _ => 0))), (q 12, .inl (X.ac 0, 130, .inl (fun _ => 0))), (q 13, .inl (X.ac 0, 400, .inl (fun _ => 0)))]
set_option maxHeartbeats 20000000 in
theorem iX9_init (X : Xc) (h0 sz : Nat) : Met X.l yX9_init (wsM yX9_init cX9_init 2 none) rmX9_init (va_Pc [.ref h0] (PA X [(h0, .inr (9, [.null, .null, .int 0, .int 0, .null, .int 0, .null, .null, .null, .null, .null, .null, .int 0, .int 0, .int 0, .int 0, .int 0, .null, .null, .int 0, .int 0, .int 0, .int 0, .null, .null, .int 0, .long 0]))] sz)) (QA X (h0, .inr (9, [.null, .null, .int 0, .int 0, .null, .int 0, .null, .null, .null, .null, .null, .null, .int 0, .int 0, .int 0, .int 0, .int 0, .null, .null, .int 0, .int 0, .int 0, .int 0, .null, .null, .int 0, .long 0])) sz (fun w => ∃ q : Nat → Nat, q 0 = h0 ∧ w.Perm (moW X q))) 13 6676 (va_A [(h0, .inr (9, [.null, .null, .int 0, .int 0, .null, .int 0, .null, .null, .null, .null, .null, .null, .int 0, .int 0, .int 0, .int 0, .int 0, .null, .null, .int 0, .int 0, .int 0, .int 0, .null, .null, .int 0, .long 0]))] sz) := by
  refine ct_of (own := RX9) (lo := [some (.ref h0), none]) (by decide) rfl (Nat.le_of_ble_eq_true rfl) rfl (fun K C hr hin hz => ?_)
  refine a_aload_n (pc := 0) (i := 0) C dX9_init_0 rfl rfl ?_
  refine a_obj (pc := 1) C q_6_1 q_1_11 q_1_12 (Nat.le_of_ble_eq_true rfl) (Nat.le_of_ble_eq_true rfl) dX9_init_1 ?_
  refine a_aload_n (pc := 4) (i := 0) C dX9_init_4 rfl rfl ?_
  refine a_sipush (pc := 5) (v := 921) C dX9_init_5 (by decide) ?_
  refine a_newint (pc := 8) (N := 921) (fun q1 => [(h0, .inr (9, [.null, .null, .int 0, .int 0, .null, .int 0, .null, .null, .null, .null, .null, .null, .int 0, .int 0, .int 0, .int 0, .int 0, .null, .null, .int 0, .int 0, .int 0, .int 0, .null, .null, .int 0, .long 0])), (q1, .inl (X.ac 0, 921, .inl (fun _ => 0)))]) C q_2_14 (by decide) (by decide) (by decide) (Nat.le_of_ble_eq_true rfl) (Nat.le_of_ble_eq_true rfl) dX9_init_8 (fun _ => rfl) (fun q1 => ?_)
  refine a_putF (pc := 10) (q0 := 0) (j := 0) (ci := 9) (N := 27) (T := TX9) (Cn := RX9) ([(h0, .inr (9, [.ref q1, .null, .int 0, .int 0, .null, .int 0, .null, .null, .null, .null, .null, .null, .int 0, .int 0, .int 0, .int 0, .int 0, .null, .null, .int 0, .int 0, .int 0, .int 0, .null, .null, .int 0, .long 0])), (q1, .inl (X.ac 0, 921, .inl (fun _ => 0)))]) C hin rfl rfl inlX9 tyX9_ok nmX9 (Nat.le_of_ble_eq_true rfl) q_6_2 rfl rfl rfl rfl (Nat.le_of_ble_eq_true rfl) dX9_init_10 rfl ?_
  refine a_aload_n (pc := 13) (i := 0) C dX9_init_13 rfl rfl ?_
  refine a_sipush (pc := 14) (v := 4605) C dX9_init_14 (by decide) ?_
  refine a_newint (pc := 17) (N := 4605) (fun q2 => [(h0, .inr (9, [.ref q1, .null, .int 0, .int 0, .null, .int 0, .null, .null, .null, .null, .null, .null, .int 0, .int 0, .int 0, .int 0, .int 0, .null, .null, .int 0, .int 0, .int 0, .int 0, .null, .null, .int 0, .long 0])), (q1, .inl (X.ac 0, 921, .inl (fun _ => 0))), (q2, .inl (X.ac 0, 4605, .inl (fun _ => 0)))]) C q_2_14 (by decide) (by decide) (by decide) (Nat.le_of_ble_eq_true rfl) (Nat.le_of_ble_eq_true rfl) dX9_init_17 (fun _ => rfl) (fun q2 => ?_)
  refine a_putF (pc := 19) (q0 := 0) (j := 1) (ci := 9) (N := 27) (T := TX9) (Cn := RX9) ([(h0, .inr (9, [.ref q1, .ref q2, .int 0, .int 0, .null, .int 0, .null, .null, .null, .null, .null, .null, .int 0, .int 0, .int 0, .int 0, .int 0, .null, .null, .int 0, .int 0, .int 0, .int 0, .null, .null, .int 0, .long 0])), (q1, .inl (X.ac 0, 921, .inl (fun _ => 0))), (q2, .inl (X.ac 0, 4605, .inl (fun _ => 0)))]) C hin rfl rfl inlX9 tyX9_ok nmX9 (Nat.le_of_ble_eq_true rfl) q_6_3 rfl rfl rfl rfl (Nat.le_of_ble_eq_true rfl) dX9_init_19 rfl ?_
  refine a_aload_n (pc := 22) (i := 0) C dX9_init_22 rfl rfl ?_
  refine a_bipush (pc := 23) (v := 120) C dX9_init_23 (by decide) ?_
  refine a_newint (pc := 25) (N := 120) (fun q3 => [(h0, .inr (9, [.ref q1, .ref q2, .int 0, .int 0, .null, .int 0, .null, .null, .null, .null, .null, .null, .int 0, .int 0, .int 0, .int 0, .int 0, .null, .null, .int 0, .int 0, .int 0, .int 0, .null, .null, .int 0, .long 0])), (q1, .inl (X.ac 0, 921, .inl (fun _ => 0))), (q2, .inl (X.ac 0, 4605, .inl (fun _ => 0))), (q3, .inl (X.ac 0, 120, .inl (fun _ => 0)))]) C q_2_14 (by decide) (by decide) (by decide) (Nat.le_of_ble_eq_true rfl) (Nat.le_of_ble_eq_true rfl) dX9_init_25 (fun _ => rfl) (fun q3 => ?_)
  refine a_putF (pc := 27) (q0 := 0) (j := 4) (ci := 9) (N := 27) (T := TX9) (Cn := RX9) ([(h0, .inr (9, [.ref q1, .ref q2, .int 0, .int 0, .ref q3, .int 0, .null, .null, .null, .null, .null, .null, .int 0, .int 0, .int 0, .int 0, .int 0, .null, .null, .int 0, .int 0, .int 0, .int 0, .null, .null, .int 0, .long 0])), (q1, .inl (X.ac 0, 921, .inl (fun _ => 0))), (q2, .inl (X.ac 0, 4605, .inl (fun _ => 0))), (q3, .inl (X.ac 0, 120, .inl (fun _ => 0)))]) C hin rfl rfl inlX9 tyX9_ok nmX9 (Nat.le_of_ble_eq_true rfl) q_6_4 rfl rfl rfl rfl (Nat.le_of_ble_eq_true rfl) dX9_init_27 rfl ?_
  refine a_aload_n (pc := 30) (i := 0) C dX9_init_30 rfl rfl ?_
  refine a_bipush (pc := 31) (v := 24) C dX9_init_31 (by decide) ?_
  refine a_newint (pc := 33) (N := 24) (fun q4 => [(h0, .inr (9, [.ref q1, .ref q2, .int 0, .int 0, .ref q3, .int 0, .null, .null, .null, .null, .null, .null, .int 0, .int 0, .int 0, .int 0, .int 0, .null, .null, .int 0, .int 0, .int 0, .int 0, .null, .null, .int 0, .long 0])), (q1, .inl (X.ac 0, 921, .inl (fun _ => 0))), (q2, .inl (X.ac 0, 4605, .inl (fun _ => 0))), (q3, .inl (X.ac 0, 120, .inl (fun _ => 0))), (q4, .inl (X.ac 0, 24, .inl (fun _ => 0)))]) C q_2_14 (by decide) (by decide) (by decide) (Nat.le_of_ble_eq_true rfl) (Nat.le_of_ble_eq_true rfl) dX9_init_33 (fun _ => rfl) (fun q4 => ?_)
  refine a_putF (pc := 35) (q0 := 0) (j := 6) (ci := 9) (N := 27) (T := TX9) (Cn := RX9) ([(h0, .inr (9, [.ref q1, .ref q2, .int 0, .int 0, .ref q3, .int 0, .ref q4, .null, .null, .null, .null, .null, .int 0, .int 0, .int 0, .int 0, .int 0, .null, .null, .int 0, .int 0, .int 0, .int 0, .null, .null, .int 0, .long 0])), (q1, .inl (X.ac 0, 921, .inl (fun _ => 0))), (q2, .inl (X.ac 0, 4605, .inl (fun _ => 0))), (q3, .inl (X.ac 0, 120, .inl (fun _ => 0))), (q4, .inl (X.ac 0, 24, .inl (fun _ => 0)))]) C hin rfl rfl inlX9 tyX9_ok nmX9 (Nat.le_of_ble_eq_true rfl) q_6_5 rfl rfl rfl rfl (Nat.le_of_ble_eq_true rfl) dX9_init_35 rfl ?_
  refine a_aload_n (pc := 38) (i := 0) C dX9_init_38 rfl rfl ?_
  refine a_bipush (pc := 39) (v := 24) C dX9_init_39 (by decide) ?_
  refine a_newboolean (pc := 41) (N := 24) (fun q5 => [(h0, .inr (9, [.ref q1, .ref q2, .int 0, .int 0, .ref q3, .int 0, .ref q4, .null, .null, .null, .null, .null, .int 0, .int 0, .int 0, .int 0, .int 0, .null, .null, .int 0, .int 0, .int 0, .int 0, .null, .null, .int 0, .long 0])), (q1, .inl (X.ac 0, 921, .inl (fun _ => 0))), (q2, .inl (X.ac 0, 4605, .inl (fun _ => 0))), (q3, .inl (X.ac 0, 120, .inl (fun _ => 0))), (q4, .inl (X.ac 0, 24, .inl (fun _ => 0))), (q5, .inl (X.ac 1, 24, .inl (fun _ => 0)))]) C q_6_6 (by decide) (by decide) (by decide) (Nat.le_of_ble_eq_true rfl) (Nat.le_of_ble_eq_true rfl) dX9_init_41 (fun _ => rfl) (fun q5 => ?_)
  refine a_putF (pc := 43) (q0 := 0) (j := 7) (ci := 9) (N := 27) (T := TX9) (Cn := RX9) ([(h0, .inr (9, [.ref q1, .ref q2, .int 0, .int 0, .ref q3, .int 0, .ref q4, .ref q5, .null, .null, .null, .null, .int 0, .int 0, .int 0, .int 0, .int 0, .null, .null, .int 0, .int 0, .int 0, .int 0, .null, .null, .int 0, .long 0])), (q1, .inl (X.ac 0, 921, .inl (fun _ => 0))), (q2, .inl (X.ac 0, 4605, .inl (fun _ => 0))), (q3, .inl (X.ac 0, 120, .inl (fun _ => 0))), (q4, .inl (X.ac 0, 24, .inl (fun _ => 0))), (q5, .inl (X.ac 1, 24, .inl (fun _ => 0)))]) C hin rfl rfl inlX9 tyX9_ok nmX9 (Nat.le_of_ble_eq_true rfl) q_6_7 rfl rfl rfl rfl (Nat.le_of_ble_eq_true rfl) dX9_init_43 rfl ?_
  refine a_aload_n (pc := 46) (i := 0) C dX9_init_46 rfl rfl ?_
  refine a_bipush (pc := 47) (v := 48) C dX9_init_47 (by decide) ?_
  refine a_newint (pc := 49) (N := 48) (fun q6 => [(h0, .inr (9, [.ref q1, .ref q2, .int 0, .int 0, .ref q3, .int 0, .ref q4, .ref q5, .null, .null, .null, .null, .int 0, .int 0, .int 0, .int 0, .int 0, .null, .null, .int 0, .int 0, .int 0, .int 0, .null, .null, .int 0, .long 0])), (q1, .inl (X.ac 0, 921, .inl (fun _ => 0))), (q2, .inl (X.ac 0, 4605, .inl (fun _ => 0))), (q3, .inl (X.ac 0, 120, .inl (fun _ => 0))), (q4, .inl (X.ac 0, 24, .inl (fun _ => 0))), (q5, .inl (X.ac 1, 24, .inl (fun _ => 0))), (q6, .inl (X.ac 0, 48, .inl (fun _ => 0)))]) C q_2_14 (by decide) (by decide) (by decide) (Nat.le_of_ble_eq_true rfl) (Nat.le_of_ble_eq_true rfl) dX9_init_49 (fun _ => rfl) (fun q6 => ?_)
  refine a_putF (pc := 51) (q0 := 0) (j := 8) (ci := 9) (N := 27) (T := TX9) (Cn := RX9) ([(h0, .inr (9, [.ref q1, .ref q2, .int 0, .int 0, .ref q3, .int 0, .ref q4, .ref q5, .ref q6, .null, .null, .null, .int 0, .int 0, .int 0, .int 0, .int 0, .null, .null, .int 0, .int 0, .int 0, .int 0, .null, .null, .int 0, .long 0])), (q1, .inl (X.ac 0, 921, .inl (fun _ => 0))), (q2, .inl (X.ac 0, 4605, .inl (fun _ => 0))), (q3, .inl (X.ac 0, 120, .inl (fun _ => 0))), (q4, .inl (X.ac 0, 24, .inl (fun _ => 0))), (q5, .inl (X.ac 1, 24, .inl (fun _ => 0))), (q6, .inl (X.ac 0, 48, .inl (fun _ => 0)))]) C hin rfl rfl inlX9 tyX9_ok nmX9 (Nat.le_of_ble_eq_true rfl) q_6_8 rfl rfl rfl rfl (Nat.le_of_ble_eq_true rfl) dX9_init_51 rfl ?_
  refine a_aload_n (pc := 54) (i := 0) C dX9_init_54 rfl rfl ?_
  refine a_bipush (pc := 55) (v := 96) C dX9_init_55 (by decide) ?_
  refine a_newint (pc := 57) (N := 96) (fun q7 => [(h0, .inr (9, [.ref q1, .ref q2, .int 0, .int 0, .ref q3, .int 0, .ref q4, .ref q5, .ref q6, .null, .null, .null, .int 0, .int 0, .int 0, .int 0, .int 0, .null, .null, .int 0, .int 0, .int 0, .int 0, .null, .null, .int 0, .long 0])), (q1, .inl (X.ac 0, 921, .inl (fun _ => 0))), (q2, .inl (X.ac 0, 4605, .inl (fun _ => 0))), (q3, .inl (X.ac 0, 120, .inl (fun _ => 0))), (q4, .inl (X.ac 0, 24, .inl (fun _ => 0))), (q5, .inl (X.ac 1, 24, .inl (fun _ => 0))), (q6, .inl (X.ac 0, 48, .inl (fun _ => 0))), (q7, .inl (X.ac 0, 96, .inl (fun _ => 0)))]) C q_2_14 (by decide) (by decide) (by decide) (Nat.le_of_ble_eq_true rfl) (Nat.le_of_ble_eq_true rfl) dX9_init_57 (fun _ => rfl) (fun q7 => ?_)
  refine a_putF (pc := 59) (q0 := 0) (j := 9) (ci := 9) (N := 27) (T := TX9) (Cn := RX9) ([(h0, .inr (9, [.ref q1, .ref q2, .int 0, .int 0, .ref q3, .int 0, .ref q4, .ref q5, .ref q6, .ref q7, .null, .null, .int 0, .int 0, .int 0, .int 0, .int 0, .null, .null, .int 0, .int 0, .int 0, .int 0, .null, .null, .int 0, .long 0])), (q1, .inl (X.ac 0, 921, .inl (fun _ => 0))), (q2, .inl (X.ac 0, 4605, .inl (fun _ => 0))), (q3, .inl (X.ac 0, 120, .inl (fun _ => 0))), (q4, .inl (X.ac 0, 24, .inl (fun _ => 0))), (q5, .inl (X.ac 1, 24, .inl (fun _ => 0))), (q6, .inl (X.ac 0, 48, .inl (fun _ => 0))), (q7, .inl (X.ac 0, 96, .inl (fun _ => 0)))]) C hin rfl rfl inlX9 tyX9_ok nmX9 (Nat.le_of_ble_eq_true rfl) q_6_9 rfl rfl rfl rfl (Nat.le_of_ble_eq_true rfl) dX9_init_59 rfl ?_
  refine a_aload_n (pc := 62) (i := 0) C dX9_init_62 rfl rfl ?_
  refine a_bipush (pc := 63) (v := 24) C dX9_init_63 (by decide) ?_
  refine a_newint (pc := 65) (N := 24) (fun q8 => [(h0, .inr (9, [.ref q1, .ref q2, .int 0, .int 0, .ref q3, .int 0, .ref q4, .ref q5, .ref q6, .ref q7, .null, .null, .int 0, .int 0, .int 0, .int 0, .int 0, .null, .null, .int 0, .int 0, .int 0, .int 0, .null, .null, .int 0, .long 0])), (q1, .inl (X.ac 0, 921, .inl (fun _ => 0))), (q2, .inl (X.ac 0, 4605, .inl (fun _ => 0))), (q3, .inl (X.ac 0, 120, .inl (fun _ => 0))), (q4, .inl (X.ac 0, 24, .inl (fun _ => 0))), (q5, .inl (X.ac 1, 24, .inl (fun _ => 0))), (q6, .inl (X.ac 0, 48, .inl (fun _ => 0))), (q7, .inl (X.ac 0, 96, .inl (fun _ => 0))), (q8, .inl (X.ac 0, 24, .inl (fun _ => 0)))]) C q_2_14 (by decide) (by decide) (by decide) (Nat.le_of_ble_eq_true rfl) (Nat.le_of_ble_eq_true rfl) dX9_init_65 (fun _ => rfl) (fun q8 => ?_)
  refine a_putF (pc := 67) (q0 := 0) (j := 10) (ci := 9) (N := 27) (T := TX9) (Cn := RX9) ([(h0, .inr (9, [.ref q1, .ref q2, .int 0, .int 0, .ref q3, .int 0, .ref q4, .ref q5, .ref q6, .ref q7, .ref q8, .null, .int 0, .int 0, .int 0, .int 0, .int 0, .null, .null, .int 0, .int 0, .int 0, .int 0, .null, .null, .int 0, .long 0])), (q1, .inl (X.ac 0, 921, .inl (fun _ => 0))), (q2, .inl (X.ac 0, 4605, .inl (fun _ => 0))), (q3, .inl (X.ac 0, 120, .inl (fun _ => 0))), (q4, .inl (X.ac 0, 24, .inl (fun _ => 0))), (q5, .inl (X.ac 1, 24, .inl (fun _ => 0))), (q6, .inl (X.ac 0, 48, .inl (fun _ => 0))), (q7, .inl (X.ac 0, 96, .inl (fun _ => 0))), (q8, .inl (X.ac 0, 24, .inl (fun _ => 0)))]) C hin rfl rfl inlX9 tyX9_ok nmX9 (Nat.le_of_ble_eq_true rfl) q_6_10 rfl rfl rfl rfl (Nat.le_of_ble_eq_true rfl) dX9_init_67 rfl ?_
  refine a_aload_n (pc := 70) (i := 0) C dX9_init_70 rfl rfl ?_
  refine a_bipush (pc := 71) (v := 24) C dX9_init_71 (by decide) ?_
  refine a_newboolean (pc := 73) (N := 24) (fun q9 => [(h0, .inr (9, [.ref q1, .ref q2, .int 0, .int 0, .ref q3, .int 0, .ref q4, .ref q5, .ref q6, .ref q7, .ref q8, .null, .int 0, .int 0, .int 0, .int 0, .int 0, .null, .null, .int 0, .int 0, .int 0, .int 0, .null, .null, .int 0, .long 0])), (q1, .inl (X.ac 0, 921, .inl (fun _ => 0))), (q2, .inl (X.ac 0, 4605, .inl (fun _ => 0))), (q3, .inl (X.ac 0, 120, .inl (fun _ => 0))), (q4, .inl (X.ac 0, 24, .inl (fun _ => 0))), (q5, .inl (X.ac 1, 24, .inl (fun _ => 0))), (q6, .inl (X.ac 0, 48, .inl (fun _ => 0))), (q7, .inl (X.ac 0, 96, .inl (fun _ => 0))), (q8, .inl (X.ac 0, 24, .inl (fun _ => 0))), (q9, .inl (X.ac 1, 24, .inl (fun _ => 0)))]) C q_6_6 (by decide) (by decide) (by decide) (Nat.le_of_ble_eq_true rfl) (Nat.le_of_ble_eq_true rfl) dX9_init_73 (fun _ => rfl) (fun q9 => ?_)
  refine a_putF (pc := 75) (q0 := 0) (j := 11) (ci := 9) (N := 27) (T := TX9) (Cn := RX9) ([(h0, .inr (9, [.ref q1, .ref q2, .int 0, .int 0, .ref q3, .int 0, .ref q4, .ref q5, .ref q6, .ref q7, .ref q8, .ref q9, .int 0, .int 0, .int 0, .int 0, .int 0, .null, .null, .int 0, .int 0, .int 0, .int 0, .null, .null, .int 0, .long 0])), (q1, .inl (X.ac 0, 921, .inl (fun _ => 0))), (q2, .inl (X.ac 0, 4605, .inl (fun _ => 0))), (q3, .inl (X.ac 0, 120, .inl (fun _ => 0))), (q4, .inl (X.ac 0, 24, .inl (fun _ => 0))), (q5, .inl (X.ac 1, 24, .inl (fun _ => 0))), (q6, .inl (X.ac 0, 48, .inl (fun _ => 0))), (q7, .inl (X.ac 0, 96, .inl (fun _ => 0))), (q8, .inl (X.ac 0, 24, .inl (fun _ => 0))), (q9, .inl (X.ac 1, 24, .inl (fun _ => 0)))]) C hin rfl rfl inlX9 tyX9_ok nmX9 (Nat.le_of_ble_eq_true rfl) q_6_11 rfl rfl rfl rfl (Nat.le_of_ble_eq_true rfl) dX9_init_75 rfl ?_
  refine a_aload_n (pc := 78) (i := 0) C dX9_init_78 rfl rfl ?_
  refine a_sipush (pc := 79) (v := 130) C dX9_init_79 (by decide) ?_
  refine a_newint (pc := 82) (N := 130) (fun q10 => [(h0, .inr (9, [.ref q1, .ref q2, .int 0, .int 0, .ref q3, .int 0, .ref q4, .ref q5, .ref q6, .ref q7, .ref q8, .ref q9, .int 0, .int 0, .int 0, .int 0, .int 0, .null, .null, .int 0, .int 0, .int 0, .int 0, .null, .null, .int 0, .long 0])), (q1, .inl (X.ac 0, 921, .inl (fun _ => 0))), (q2, .inl (X.ac 0, 4605, .inl (fun _ => 0))), (q3, .inl (X.ac 0, 120, .inl (fun _ => 0))), (q4, .inl (X.ac 0, 24, .inl (fun _ => 0))), (q5, .inl (X.ac 1, 24, .inl (fun _ => 0))), (q6, .inl (X.ac 0, 48, .inl (fun _ => 0))), (q7, .inl (X.ac 0, 96, .inl (fun _ => 0))), (q8, .inl (X.ac 0, 24, .inl (fun _ => 0))), (q9, .inl (X.ac 1, 24, .inl (fun _ => 0))), (q10, .inl (X.ac 0, 130, .inl (fun _ => 0)))]) C q_2_14 (by decide) (by decide) (by decide) (Nat.le_of_ble_eq_true rfl) (Nat.le_of_ble_eq_true rfl) dX9_init_82 (fun _ => rfl) (fun q10 => ?_)
  refine a_putF (pc := 84) (q0 := 0) (j := 17) (ci := 9) (N := 27) (T := TX9) (Cn := RX9) ([(h0, .inr (9, [.ref q1, .ref q2, .int 0, .int 0, .ref q3, .int 0, .ref q4, .ref q5, .ref q6, .ref q7, .ref q8, .ref q9, .int 0, .int 0, .int 0, .int 0, .int 0, .ref q10, .null, .int 0, .int 0, .int 0, .int 0, .null, .null, .int 0, .long 0])), (q1, .inl (X.ac 0, 921, .inl (fun _ => 0))), (q2, .inl (X.ac 0, 4605, .inl (fun _ => 0))), (q3, .inl (X.ac 0, 120, .inl (fun _ => 0))), (q4, .inl (X.ac 0, 24, .inl (fun _ => 0))), (q5, .inl (X.ac 1, 24, .inl (fun _ => 0))), (q6, .inl (X.ac 0, 48, .inl (fun _ => 0))), (q7, .inl (X.ac 0, 96, .inl (fun _ => 0))), (q8, .inl (X.ac 0, 24, .inl (fun _ => 0))), (q9, .inl (X.ac 1, 24, .inl (fun _ => 0))), (q10, .inl (X.ac 0, 130, .inl (fun _ => 0)))]) C hin rfl rfl inlX9 tyX9_ok nmX9 (Nat.le_of_ble_eq_true rfl) q_6_12 rfl rfl rfl rfl (Nat.le_of_ble_eq_true rfl) dX9_init_84 rfl ?_
  refine a_aload_n (pc := 87) (i := 0) C dX9_init_87 rfl rfl ?_
  refine a_sipush (pc := 88) (v := 130) C dX9_init_88 (by decide) ?_
  refine a_newint (pc := 91) (N := 130) (fun q11 => [(h0, .inr (9, [.ref q1, .ref q2, .int 0, .int 0, .ref q3, .int 0, .ref q4, .ref q5, .ref q6, .ref q7, .ref q8, .ref q9, .int 0, .int 0, .int 0, .int 0, .int 0, .ref q10, .null, .int 0, .int 0, .int 0, .int 0, .null, .null, .int 0, .long 0])), (q1, .inl (X.ac 0, 921, .inl (fun _ => 0))), (q2, .inl (X.ac 0, 4605, .inl (fun _ => 0))), (q3, .inl (X.ac 0, 120, .inl (fun _ => 0))), (q4, .inl (X.ac 0, 24, .inl (fun _ => 0))), (q5, .inl (X.ac 1, 24, .inl (fun _ => 0))), (q6, .inl (X.ac 0, 48, .inl (fun _ => 0))), (q7, .inl (X.ac 0, 96, .inl (fun _ => 0))), (q8, .inl (X.ac 0, 24, .inl (fun _ => 0))), (q9, .inl (X.ac 1, 24, .inl (fun _ => 0))), (q10, .inl (X.ac 0, 130, .inl (fun _ => 0))), (q11, .inl (X.ac 0, 130, .inl (fun _ => 0)))]) C q_2_14 (by decide) (by decide) (by decide) (Nat.le_of_ble_eq_true rfl) (Nat.le_of_ble_eq_true rfl) dX9_init_91 (fun _ => rfl) (fun q11 => ?_)
  refine a_putF (pc := 93) (q0 := 0) (j := 18) (ci := 9) (N := 27) (T := TX9) (Cn := RX9) ([(h0, .inr (9, [.ref q1, .ref q2, .int 0, .int 0, .ref q3, .int 0, .ref q4, .ref q5, .ref q6, .ref q7, .ref q8, .ref q9, .int 0, .int 0, .int 0, .int 0, .int 0, .ref q10, .ref q11, .int 0, .int 0, .int 0, .int 0, .null, .null, .int 0, .long 0])), (q1, .inl (X.ac 0, 921, .inl (fun _ => 0))), (q2, .inl (X.ac 0, 4605, .inl (fun _ => 0))), (q3, .inl (X.ac 0, 120, .inl (fun _ => 0))), (q4, .inl (X.ac 0, 24, .inl (fun _ => 0))), (q5, .inl (X.ac 1, 24, .inl (fun _ => 0))), (q6, .inl (X.ac 0, 48, .inl (fun _ => 0))), (q7, .inl (X.ac 0, 96, .inl (fun _ => 0))), (q8, .inl (X.ac 0, 24, .inl (fun _ => 0))), (q9, .inl (X.ac 1, 24, .inl (fun _ => 0))), (q10, .inl (X.ac 0, 130, .inl (fun _ => 0))), (q11, .inl (X.ac 0, 130, .inl (fun _ => 0)))]) C hin rfl rfl inlX9 tyX9_ok nmX9 (Nat.le_of_ble_eq_true rfl) q_6_13 rfl rfl rfl rfl (Nat.le_of_ble_eq_true rfl) dX9_init_93 rfl ?_
  refine a_aload_n (pc := 96) (i := 0) C dX9_init_96 rfl rfl ?_
  refine a_sipush (pc := 97) (v := 130) C dX9_init_97 (by decide) ?_
  refine a_newint (pc := 100) (N := 130) (fun q12 => [(h0, .inr (9, [.ref q1, .ref q2, .int 0, .int 0, .ref q3, .int 0, .ref q4, .ref q5, .ref q6, .ref q7, .ref q8, .ref q9, .int 0, .int 0, .int 0, .int 0, .int 0, .ref q10, .ref q11, .int 0, .int 0, .int 0, .int 0, .null, .null, .int 0, .long 0])), (q1, .inl (X.ac 0, 921, .inl (fun _ => 0))), (q2, .inl (X.ac 0, 4605, .inl (fun _ => 0))), (q3, .inl (X.ac 0, 120, .inl (fun _ => 0))), (q4, .inl (X.ac 0, 24, .inl (fun _ => 0))), (q5, .inl (X.ac 1, 24, .inl (fun _ => 0))), (q6, .inl (X.ac 0, 48, .inl (fun _ => 0))), (q7, .inl (X.ac 0, 96, .inl (fun _ => 0))), (q8, .inl (X.ac 0, 24, .inl (fun _ => 0))), (q9, .inl (X.ac 1, 24, .inl (fun _ => 0))), (q10, .inl (X.ac 0, 130, .inl (fun _ => 0))), (q11, .inl (X.ac 0, 130, .inl (fun _ => 0))), (q12, .inl (X.ac 0, 130, .inl (fun _ => 0)))]) C q_2_14 (by decide) (by decide) (by decide) (Nat.le_of_ble_eq_true rfl) (Nat.le_of_ble_eq_true rfl) dX9_init_100 (fun _ => rfl) (fun q12 => ?_)
  refine a_putF (pc := 102) (q0 := 0) (j := 23) (ci := 9) (N := 27) (T := TX9) (Cn := RX9) ([(h0, .inr (9, [.ref q1, .ref q2, .int 0, .int 0, .ref q3, .int 0, .ref q4, .ref q5, .ref q6, .ref q7, .ref q8, .ref q9, .int 0, .int 0, .int 0, .int 0, .int 0, .ref q10, .ref q11, .int 0, .int 0, .int 0, .int 0, .ref q12, .null, .int 0, .long 0])), (q1, .inl (X.ac 0, 921, .inl (fun _ => 0))), (q2, .inl (X.ac 0, 4605, .inl (fun _ => 0))), (q3, .inl (X.ac 0, 120, .inl (fun _ => 0))), (q4, .inl (X.ac 0, 24, .inl (fun _ => 0))), (q5, .inl (X.ac 1, 24, .inl (fun _ => 0))), (q6, .inl (X.ac 0, 48, .inl (fun _ => 0))), (q7, .inl (X.ac 0, 96, .inl (fun _ => 0))), (q8, .inl (X.ac 0, 24, .inl (fun _ => 0))), (q9, .inl (X.ac 1, 24, .inl (fun _ => 0))), (q10, .inl (X.ac 0, 130, .inl (fun _ => 0))), (q11, .inl (X.ac 0, 130, .inl (fun _ => 0))), (q12, .inl (X.ac 0, 130, .inl (fun _ => 0)))]) C hin rfl rfl inlX9 tyX9_ok nmX9 (Nat.le_of_ble_eq_true rfl) q_6_14 rfl rfl rfl rfl (Nat.le_of_ble_eq_true rfl) dX9_init_102 rfl ?_
  refine a_aload_n (pc := 105) (i := 0) C dX9_init_105 rfl rfl ?_
  refine a_sipush (pc := 106) (v := 400) C dX9_init_106 (by decide) ?_
  refine a_newint (pc := 109) (N := 400) (fun q13 => [(h0, .inr (9, [.ref q1, .ref q2, .int 0, .int 0, .ref q3, .int 0, .ref q4, .ref q5, .ref q6, .ref q7, .ref q8, .ref q9, .int 0, .int 0, .int 0, .int 0, .int 0, .ref q10, .ref q11, .int 0, .int 0, .int 0, .int 0, .ref q12, .null, .int 0, .long 0])), (q1, .inl (X.ac 0, 921, .inl (fun _ => 0))), (q2, .inl (X.ac 0, 4605, .inl (fun _ => 0))), (q3, .inl (X.ac 0, 120, .inl (fun _ => 0))), (q4, .inl (X.ac 0, 24, .inl (fun _ => 0))), (q5, .inl (X.ac 1, 24, .inl (fun _ => 0))), (q6, .inl (X.ac 0, 48, .inl (fun _ => 0))), (q7, .inl (X.ac 0, 96, .inl (fun _ => 0))), (q8, .inl (X.ac 0, 24, .inl (fun _ => 0))), (q9, .inl (X.ac 1, 24, .inl (fun _ => 0))), (q10, .inl (X.ac 0, 130, .inl (fun _ => 0))), (q11, .inl (X.ac 0, 130, .inl (fun _ => 0))), (q12, .inl (X.ac 0, 130, .inl (fun _ => 0))), (q13, .inl (X.ac 0, 400, .inl (fun _ => 0)))]) C q_2_14 (by decide) (by decide) (by decide) (Nat.le_of_ble_eq_true rfl) (Nat.le_of_ble_eq_true rfl) dX9_init_109 (fun _ => rfl) (fun q13 => ?_)
  refine a_putF (pc := 111) (q0 := 0) (j := 24) (ci := 9) (N := 27) (T := TX9) (Cn := RX9) ([(h0, .inr (9, [.ref q1, .ref q2, .int 0, .int 0, .ref q3, .int 0, .ref q4, .ref q5, .ref q6, .ref q7, .ref q8, .ref q9, .int 0, .int 0, .int 0, .int 0, .int 0, .ref q10, .ref q11, .int 0, .int 0, .int 0, .int 0, .ref q12, .ref q13, .int 0, .long 0])), (q1, .inl (X.ac 0, 921, .inl (fun _ => 0))), (q2, .inl (X.ac 0, 4605, .inl (fun _ => 0))), (q3, .inl (X.ac 0, 120, .inl (fun _ => 0))), (q4, .inl (X.ac 0, 24, .inl (fun _ => 0))), (q5, .inl (X.ac 1, 24, .inl (fun _ => 0))), (q6, .inl (X.ac 0, 48, .inl (fun _ => 0))), (q7, .inl (X.ac 0, 96, .inl (fun _ => 0))), (q8, .inl (X.ac 0, 24, .inl (fun _ => 0))), (q9, .inl (X.ac 1, 24, .inl (fun _ => 0))), (q10, .inl (X.ac 0, 130, .inl (fun _ => 0))), (q11, .inl (X.ac 0, 130, .inl (fun _ => 0))), (q12, .inl (X.ac 0, 130, .inl (fun _ => 0))), (q13, .inl (X.ac 0, 400, .inl (fun _ => 0)))]) C hin rfl rfl inlX9 tyX9_ok nmX9 (Nat.le_of_ble_eq_true rfl) q_6_15 rfl rfl rfl rfl (Nat.le_of_ble_eq_true rfl) dX9_init_111 rfl ?_
  refine a_iconst (pc := 114) (v := 0) C dX9_init_114 (by decide) ?_
  refine a_istore_n (pc := 115) (i := 1) C dX9_init_115 rfl (Nat.le_of_ble_eq_true rfl) rfl ?_
  show GA X K _ _ _ _ _ _ _ [some (.ref h0), some (.int 0)] _
  refine a_iload_n (pc := 116) (i := 1) C dX9_init_116 rfl rfl ?_
  refine a_iconst (pc := 117) (v := 5) C dX9_init_117 (by decide) ?_
  refine a_ge_f (pc := 118) (tgt := 143) C dX9_init_118 rfl (by decide) ?_
  refine a_aload_n (pc := 121) (i := 0) C dX9_init_121 rfl rfl ?_
  refine a_getr (pc := 122) (q0 := 0) (j := 0) (ci := 9) (N := 27) (T := TX9) (Cn := RX9) C rfl rfl inlX9 (Nat.le_of_ble_eq_true rfl) q_6_2 rfl dX9_init_122 ?_
  refine a_sipush (pc := 125) (v := 216) C dX9_init_125 (by decide) ?_
  refine a_bipush (pc := 128) (v := 6) C dX9_init_128 (by decide) ?_
  refine a_iload_n (pc := 130) (i := 1) C dX9_init_130 rfl rfl ?_
  refine a_imul (pc := 131) (v := 0) C dX9_init_131 (by decide) ?_
  refine a_iadd (pc := 132) (v := 216) C dX9_init_132 (by decide) ?_
  refine a_iconst (pc := 133) (v := 5) C dX9_init_133 (by decide) ?_
  refine a_iadd (pc := 134) (v := 221) C dX9_init_134 (by decide) ?_
  refine a_iconst (pc := 135) (v := (-1)) C dX9_init_135 (by decide) ?_
  refine a_iastore (pc := 136) (q0 := 1) (n := 921) ([(h0, .inr (9, [.ref q1, .ref q2, .int 0, .int 0, .ref q3, .int 0, .ref q4, .ref q5, .ref q6, .ref q7, .ref q8, .ref q9, .int 0, .int 0, .int 0, .int 0, .int 0, .ref q10, .ref q11, .int 0, .int 0, .int 0, .int 0, .ref q12, .ref q13, .int 0, .long 0])), (q1, .inl (X.ac 0, 921, .inl (upd (fun _ => 0) 221 (-1)))), (q2, .inl (X.ac 0, 4605, .inl (fun _ => 0))), (q3, .inl (X.ac 0, 120, .inl (fun _ => 0))), (q4, .inl (X.ac 0, 24, .inl (fun _ => 0))), (q5, .inl (X.ac 1, 24, .inl (fun _ => 0))), (q6, .inl (X.ac 0, 48, .inl (fun _ => 0))), (q7, .inl (X.ac 0, 96, .inl (fun _ => 0))), (q8, .inl (X.ac 0, 24, .inl (fun _ => 0))), (q9, .inl (X.ac 1, 24, .inl (fun _ => 0))), (q10, .inl (X.ac 0, 130, .inl (fun _ => 0))), (q11, .inl (X.ac 0, 130, .inl (fun _ => 0))), (q12, .inl (X.ac 0, 130, .inl (fun _ => 0))), (q13, .inl (X.ac 0, 400, .inl (fun _ => 0)))]) C rfl (show vp_in 221 921 from vp_in_nI (n := 221) (by decide) (by decide)) dX9_init_136 rfl ?_
  refine a_iinc (pc := 137) (v := 1) C dX9_init_137 rfl (by decide) (Nat.le_of_ble_eq_true rfl) rfl ?_
  show GA X K _ _ _ _ _ _ _ [some (.ref h0), some (.int 1)] _
  refine a_goto (pc := 140) (tgt := 116) C dX9_init_140 rfl ?_
  refine a_iload_n (pc := 116) (i := 1) C dX9_init_116 rfl rfl ?_
  refine a_iconst (pc := 117) (v := 5) C dX9_init_117 (by decide) ?_
  refine a_ge_f (pc := 118) (tgt := 143) C dX9_init_118 rfl (by decide) ?_
  refine a_aload_n (pc := 121) (i := 0) C dX9_init_121 rfl rfl ?_
  refine a_getr (pc := 122) (q0 := 0) (j := 0) (ci := 9) (N := 27) (T := TX9) (Cn := RX9) C rfl rfl inlX9 (Nat.le_of_ble_eq_true rfl) q_6_2 rfl dX9_init_122 ?_
  refine a_sipush (pc := 125) (v := 216) C dX9_init_125 (by decide) ?_
  refine a_bipush (pc := 128) (v := 6) C dX9_init_128 (by decide) ?_
  refine a_iload_n (pc := 130) (i := 1) C dX9_init_130 rfl rfl ?_
  refine a_imul (pc := 131) (v := 6) C dX9_init_131 (by decide) ?_
  refine a_iadd (pc := 132) (v := 222) C dX9_init_132 (by decide) ?_
  refine a_iconst (pc := 133) (v := 5) C dX9_init_133 (by decide) ?_
  refine a_iadd (pc := 134) (v := 227) C dX9_init_134 (by decide) ?_
  refine a_iconst (pc := 135) (v := (-1)) C dX9_init_135 (by decide) ?_
  refine a_iastore (pc := 136) (q0 := 1) (n := 921) ([(h0, .inr (9, [.ref q1, .ref q2, .int 0, .int 0, .ref q3, .int 0, .ref q4, .ref q5, .ref q6, .ref q7, .ref q8, .ref q9, .int 0, .int 0, .int 0, .int 0, .int 0, .ref q10, .ref q11, .int 0, .int 0, .int 0, .int 0, .ref q12, .ref q13, .int 0, .long 0])), (q1, .inl (X.ac 0, 921, .inl (upd (upd (fun _ => 0) 221 (-1)) 227 (-1)))), (q2, .inl (X.ac 0, 4605, .inl (fun _ => 0))), (q3, .inl (X.ac 0, 120, .inl (fun _ => 0))), (q4, .inl (X.ac 0, 24, .inl (fun _ => 0))), (q5, .inl (X.ac 1, 24, .inl (fun _ => 0))), (q6, .inl (X.ac 0, 48, .inl (fun _ => 0))), (q7, .inl (X.ac 0, 96, .inl (fun _ => 0))), (q8, .inl (X.ac 0, 24, .inl (fun _ => 0))), (q9, .inl (X.ac 1, 24, .inl (fun _ => 0))), (q10, .inl (X.ac 0, 130, .inl (fun _ => 0))), (q11, .inl (X.ac 0, 130, .inl (fun _ => 0))), (q12, .inl (X.ac 0, 130, .inl (fun _ => 0))), (q13, .inl (X.ac 0, 400, .inl (fun _ => 0)))]) C rfl (show vp_in 227 921 from vp_in_nI (n := 227) (by decide) (by decide)) dX9_init_136 rfl ?_
  refine a_iinc (pc := 137) (v := 2) C dX9_init_137 rfl (by decide) (Nat.le_of_ble_eq_true rfl) rfl ?_
  show GA X K _ _ _ _ _ _ _ [some (.ref h0), some (.int 2)] _
  refine a_goto (pc := 140) (tgt := 116) C dX9_init_140 rfl ?_
  refine a_iload_n (pc := 116) (i := 1) C dX9_init_116 rfl rfl ?_
  refine a_iconst (pc := 117) (v := 5) C dX9_init_117 (by decide) ?_
  refine a_ge_f (pc := 118) (tgt := 143) C dX9_init_118 rfl (by decide) ?_
  refine a_aload_n (pc := 121) (i := 0) C dX9_init_121 rfl rfl ?_
  refine a_getr (pc := 122) (q0 := 0) (j := 0) (ci := 9) (N := 27) (T := TX9) (Cn := RX9) C rfl rfl inlX9 (Nat.le_of_ble_eq_true rfl) q_6_2 rfl dX9_init_122 ?_
  refine a_sipush (pc := 125) (v := 216) C dX9_init_125 (by decide) ?_
  refine a_bipush (pc := 128) (v := 6) C dX9_init_128 (by decide) ?_
  refine a_iload_n (pc := 130) (i := 1) C dX9_init_130 rfl rfl ?_
  refine a_imul (pc := 131) (v := 12) C dX9_init_131 (by decide) ?_
  refine a_iadd (pc := 132) (v := 228) C dX9_init_132 (by decide) ?_
  refine a_iconst (pc := 133) (v := 5) C dX9_init_133 (by decide) ?_
  refine a_iadd (pc := 134) (v := 233) C dX9_init_134 (by decide) ?_
  refine a_iconst (pc := 135) (v := (-1)) C dX9_init_135 (by decide) ?_
  refine a_iastore (pc := 136) (q0 := 1) (n := 921) ([(h0, .inr (9, [.ref q1, .ref q2, .int 0, .int 0, .ref q3, .int 0, .ref q4, .ref q5, .ref q6, .ref q7, .ref q8, .ref q9, .int 0, .int 0, .int 0, .int 0, .int 0, .ref q10, .ref q11, .int 0, .int 0, .int 0, .int 0, .ref q12, .ref q13, .int 0, .long 0])), (q1, .inl (X.ac 0, 921, .inl (upd (upd (upd (fun _ => 0) 221 (-1)) 227 (-1)) 233 (-1)))), (q2, .inl (X.ac 0, 4605, .inl (fun _ => 0))), (q3, .inl (X.ac 0, 120, .inl (fun _ => 0))), (q4, .inl (X.ac 0, 24, .inl (fun _ => 0))), (q5, .inl (X.ac 1, 24, .inl (fun _ => 0))), (q6, .inl (X.ac 0, 48, .inl (fun _ => 0))), (q7, .inl (X.ac 0, 96, .inl (fun _ => 0))), (q8, .inl (X.ac 0, 24, .inl (fun _ => 0))), (q9, .inl (X.ac 1, 24, .inl (fun _ => 0))), (q10, .inl (X.ac 0, 130, .inl (fun _ => 0))), (q11, .inl (X.ac 0, 130, .inl (fun _ => 0))), (q12, .inl (X.ac 0, 130, .inl (fun _ => 0))), (q13, .inl (X.ac 0, 400, .inl (fun _ => 0)))]) C rfl (show vp_in 233 921 from vp_in_nI (n := 233) (by decide) (by decide)) dX9_init_136 rfl ?_
  refine a_iinc (pc := 137) (v := 3) C dX9_init_137 rfl (by decide) (Nat.le_of_ble_eq_true rfl) rfl ?_
  show GA X K _ _ _ _ _ _ _ [some (.ref h0), some (.int 3)] _
  refine a_goto (pc := 140) (tgt := 116) C dX9_init_140 rfl ?_
  refine a_iload_n (pc := 116) (i := 1) C dX9_init_116 rfl rfl ?_
  refine a_iconst (pc := 117) (v := 5) C dX9_init_117 (by decide) ?_
  refine a_ge_f (pc := 118) (tgt := 143) C dX9_init_118 rfl (by decide) ?_
  refine a_aload_n (pc := 121) (i := 0) C dX9_init_121 rfl rfl ?_
  refine a_getr (pc := 122) (q0 := 0) (j := 0) (ci := 9) (N := 27) (T := TX9) (Cn := RX9) C rfl rfl inlX9 (Nat.le_of_ble_eq_true rfl) q_6_2 rfl dX9_init_122 ?_
  refine a_sipush (pc := 125) (v := 216) C dX9_init_125 (by decide) ?_
  refine a_bipush (pc := 128) (v := 6) C dX9_init_128 (by decide) ?_
  refine a_iload_n (pc := 130) (i := 1) C dX9_init_130 rfl rfl ?_
  refine a_imul (pc := 131) (v := 18) C dX9_init_131 (by decide) ?_
  refine a_iadd (pc := 132) (v := 234) C dX9_init_132 (by decide) ?_
  refine a_iconst (pc := 133) (v := 5) C dX9_init_133 (by decide) ?_
  refine a_iadd (pc := 134) (v := 239) C dX9_init_134 (by decide) ?_
  refine a_iconst (pc := 135) (v := (-1)) C dX9_init_135 (by decide) ?_
  refine a_iastore (pc := 136) (q0 := 1) (n := 921) ([(h0, .inr (9, [.ref q1, .ref q2, .int 0, .int 0, .ref q3, .int 0, .ref q4, .ref q5, .ref q6, .ref q7, .ref q8, .ref q9, .int 0, .int 0, .int 0, .int 0, .int 0, .ref q10, .ref q11, .int 0, .int 0, .int 0, .int 0, .ref q12, .ref q13, .int 0, .long 0])), (q1, .inl (X.ac 0, 921, .inl (upd (upd (upd (upd (fun _ => 0) 221 (-1)) 227 (-1)) 233 (-1)) 239 (-1)))), (q2, .inl (X.ac 0, 4605, .inl (fun _ => 0))), (q3, .inl (X.ac 0, 120, .inl (fun _ => 0))), (q4, .inl (X.ac 0, 24, .inl (fun _ => 0))), (q5, .inl (X.ac 1, 24, .inl (fun _ => 0))), (q6, .inl (X.ac 0, 48, .inl (fun _ => 0))), (q7, .inl (X.ac 0, 96, .inl (fun _ => 0))), (q8, .inl (X.ac 0, 24, .inl (fun _ => 0))), (q9, .inl (X.ac 1, 24, .inl (fun _ => 0))), (q10, .inl (X.ac 0, 130, .inl (fun _ => 0))), (q11, .inl (X.ac 0, 130, .inl (fun _ => 0))), (q12, .inl (X.ac 0, 130, .inl (fun _ => 0))), (q13, .inl (X.ac 0, 400, .inl (fun _ => 0)))]) C rfl (show vp_in 239 921 from vp_in_nI (n := 239) (by decide) (by decide)) dX9_init_136 rfl ?_
  refine a_iinc (pc := 137) (v := 4) C dX9_init_137 rfl (by decide) (Nat.le_of_ble_eq_true rfl) rfl ?_
  show GA X K _ _ _ _ _ _ _ [some (.ref h0), some (.int 4)] _
  refine a_goto (pc := 140) (tgt := 116) C dX9_init_140 rfl ?_
  refine a_iload_n (pc := 116) (i := 1) C dX9_init_116 rfl rfl ?_
  refine a_iconst (pc := 117) (v := 5) C dX9_init_117 (by decide) ?_
  refine a_ge_f (pc := 118) (tgt := 143) C dX9_init_118 rfl (by decide) ?_
  refine a_aload_n (pc := 121) (i := 0) C dX9_init_121 rfl rfl ?_
  refine a_getr (pc := 122) (q0 := 0) (j := 0) (ci := 9) (N := 27) (T := TX9) (Cn := RX9) C rfl rfl inlX9 (Nat.le_of_ble_eq_true rfl) q_6_2 rfl dX9_init_122 ?_
  refine a_sipush (pc := 125) (v := 216) C dX9_init_125 (by decide) ?_
  refine a_bipush (pc := 128) (v := 6) C dX9_init_128 (by decide) ?_
  refine a_iload_n (pc := 130) (i := 1) C dX9_init_130 rfl rfl ?_
  refine a_imul (pc := 131) (v := 24) C dX9_init_131 (by decide) ?_
  refine a_iadd (pc := 132) (v := 240) C dX9_init_132 (by decide) ?_
  refine a_iconst (pc := 133) (v := 5) C dX9_init_133 (by decide) ?_
  refine a_iadd (pc := 134) (v := 245) C dX9_init_134 (by decide) ?_
  refine a_iconst (pc := 135) (v := (-1)) C dX9_init_135 (by decide) ?_
  refine a_iastore (pc := 136) (q0 := 1) (n := 921) ([(h0, .inr (9, [.ref q1, .ref q2, .int 0, .int 0, .ref q3, .int 0, .ref q4, .ref q5, .ref q6, .ref q7, .ref q8, .ref q9, .int 0, .int 0, .int 0, .int 0, .int 0, .ref q10, .ref q11, .int 0, .int 0, .int 0, .int 0, .ref q12, .ref q13, .int 0, .long 0])), (q1, .inl (X.ac 0, 921, .inl (upd (upd (upd (upd (upd (fun _ => 0) 221 (-1)) 227 (-1)) 233 (-1)) 239 (-1)) 245 (-1)))), (q2, .inl (X.ac 0, 4605, .inl (fun _ => 0))), (q3, .inl (X.ac 0, 120, .inl (fun _ => 0))), (q4, .inl (X.ac 0, 24, .inl (fun _ => 0))), (q5, .inl (X.ac 1, 24, .inl (fun _ => 0))), (q6, .inl (X.ac 0, 48, .inl (fun _ => 0))), (q7, .inl (X.ac 0, 96, .inl (fun _ => 0))), (q8, .inl (X.ac 0, 24, .inl (fun _ => 0))), (q9, .inl (X.ac 1, 24, .inl (fun _ => 0))), (q10, .inl (X.ac 0, 130, .inl (fun _ => 0))), (q11, .inl (X.ac 0, 130, .inl (fun _ => 0))), (q12, .inl (X.ac 0, 130, .inl (fun _ => 0))), (q13, .inl (X.ac 0, 400, .inl (fun _ => 0)))]) C rfl (show vp_in 245 921 from vp_in_nI (n := 245) (by decide) (by decide)) dX9_init_136 rfl ?_
  refine a_iinc (pc := 137) (v := 5) C dX9_init_137 rfl (by decide) (Nat.le_of_ble_eq_true rfl) rfl ?_
  show GA X K _ _ _ _ _ _ _ [some (.ref h0), some (.int 5)] _
  refine a_goto (pc := 140) (tgt := 116) C dX9_init_140 rfl ?_
  refine a_iload_n (pc := 116) (i := 1) C dX9_init_116 rfl rfl ?_
  refine a_iconst (pc := 117) (v := 5) C dX9_init_117 (by decide) ?_
  refine a_ge_t (pc := 118) (tgt := 143) C dX9_init_118 rfl (by decide) ?_
  refine a_aload_n (pc := 143) (i := 0) C dX9_init_143 rfl rfl ?_
  refine a_getr (pc := 144) (q0 := 0) (j := 0) (ci := 9) (N := 27) (T := TX9) (Cn := RX9) C rfl rfl inlX9 (Nat.le_of_ble_eq_true rfl) q_6_2 rfl dX9_init_144 ?_
  refine a_sipush (pc := 147) (v := 216) C dX9_init_147 (by decide) ?_
  refine a_iconst (pc := 150) (v := 1) C dX9_init_150 (by decide) ?_
  refine a_iastore (pc := 151) (q0 := 1) (n := 921) ([(h0, .inr (9, [.ref q1, .ref q2, .int 0, .int 0, .ref q3, .int 0, .ref q4, .ref q5, .ref q6, .ref q7, .ref q8, .ref q9, .int 0, .int 0, .int 0, .int 0, .int 0, .ref q10, .ref q11, .int 0, .int 0, .int 0, .int 0, .ref q12, .ref q13, .int 0, .long 0])), (q1, .inl (X.ac 0, 921, .inl (upd (upd (upd (upd (upd (upd (fun _ => 0) 221 (-1)) 227 (-1)) 233 (-1)) 239 (-1)) 245 (-1)) 216 1))), (q2, .inl (X.ac 0, 4605, .inl (fun _ => 0))), (q3, .inl (X.ac 0, 120, .inl (fun _ => 0))), (q4, .inl (X.ac 0, 24, .inl (fun _ => 0))), (q5, .inl (X.ac 1, 24, .inl (fun _ => 0))), (q6, .inl (X.ac 0, 48, .inl (fun _ => 0))), (q7, .inl (X.ac 0, 96, .inl (fun _ => 0))), (q8, .inl (X.ac 0, 24, .inl (fun _ => 0))), (q9, .inl (X.ac 1, 24, .inl (fun _ => 0))), (q10, .inl (X.ac 0, 130, .inl (fun _ => 0))), (q11, .inl (X.ac 0, 130, .inl (fun _ => 0))), (q12, .inl (X.ac 0, 130, .inl (fun _ => 0))), (q13, .inl (X.ac 0, 400, .inl (fun _ => 0)))]) C rfl (show vp_in 216 921 from vp_in_nI (n := 216) (by decide) (by decide)) dX9_init_151 rfl ?_
  refine a_aload_n (pc := 152) (i := 0) C dX9_init_152 rfl rfl ?_
  refine a_getr (pc := 153) (q0 := 0) (j := 0) (ci := 9) (N := 27) (T := TX9) (Cn := RX9) C rfl rfl inlX9 (Nat.le_of_ble_eq_true rfl) q_6_2 rfl dX9_init_153 ?_
  refine a_sipush (pc := 156) (v := 219) C dX9_init_156 (by decide) ?_
  refine a_bipush (pc := 159) (v := 120) C dX9_init_159 (by decide) ?_
  refine a_iastore (pc := 161) (q0 := 1) (n := 921) ([(h0, .inr (9, [.ref q1, .ref q2, .int 0, .int 0, .ref q3, .int 0, .ref q4, .ref q5, .ref q6, .ref q7, .ref q8, .ref q9, .int 0, .int 0, .int 0, .int 0, .int 0, .ref q10, .ref q11, .int 0, .int 0, .int 0, .int 0, .ref q12, .ref q13, .int 0, .long 0])), (q1, .inl (X.ac 0, 921, .inl (upd (upd (upd (upd (upd (upd (upd (fun _ => 0) 221 (-1)) 227 (-1)) 233 (-1)) 239 (-1)) 245 (-1)) 216 1) 219 120))), (q2, .inl (X.ac 0, 4605, .inl (fun _ => 0))), (q3, .inl (X.ac 0, 120, .inl (fun _ => 0))), (q4, .inl (X.ac 0, 24, .inl (fun _ => 0))), (q5, .inl (X.ac 1, 24, .inl (fun _ => 0))), (q6, .inl (X.ac 0, 48, .inl (fun _ => 0))), (q7, .inl (X.ac 0, 96, .inl (fun _ => 0))), (q8, .inl (X.ac 0, 24, .inl (fun _ => 0))), (q9, .inl (X.ac 1, 24, .inl (fun _ => 0))), (q10, .inl (X.ac 0, 130, .inl (fun _ => 0))), (q11, .inl (X.ac 0, 130, .inl (fun _ => 0))), (q12, .inl (X.ac 0, 130, .inl (fun _ => 0))), (q13, .inl (X.ac 0, 400, .inl (fun _ => 0)))]) C rfl (show vp_in 219 921 from vp_in_nI (n := 219) (by decide) (by decide)) dX9_init_161 rfl ?_
  refine a_aload_n (pc := 162) (i := 0) C dX9_init_162 rfl rfl ?_
  refine a_getr (pc := 163) (q0 := 0) (j := 0) (ci := 9) (N := 27) (T := TX9) (Cn := RX9) C rfl rfl inlX9 (Nat.le_of_ble_eq_true rfl) q_6_2 rfl dX9_init_163 ?_
  refine a_sipush (pc := 166) (v := 220) C dX9_init_166 (by decide) ?_
  refine a_bipush (pc := 169) (v := 60) C dX9_init_169 (by decide) ?_
  refine a_iastore (pc := 171) (q0 := 1) (n := 921) ([(h0, .inr (9, [.ref q1, .ref q2, .int 0, .int 0, .ref q3, .int 0, .ref q4, .ref q5, .ref q6, .ref q7, .ref q8, .ref q9, .int 0, .int 0, .int 0, .int 0, .int 0, .ref q10, .ref q11, .int 0, .int 0, .int 0, .int 0, .ref q12, .ref q13, .int 0, .long 0])), (q1, .inl (X.ac 0, 921, .inl (upd (upd (upd (upd (upd (upd (upd (upd (fun _ => 0) 221 (-1)) 227 (-1)) 233 (-1)) 239 (-1)) 245 (-1)) 216 1) 219 120) 220 60))), (q2, .inl (X.ac 0, 4605, .inl (fun _ => 0))), (q3, .inl (X.ac 0, 120, .inl (fun _ => 0))), (q4, .inl (X.ac 0, 24, .inl (fun _ => 0))), (q5, .inl (X.ac 1, 24, .inl (fun _ => 0))), (q6, .inl (X.ac 0, 48, .inl (fun _ => 0))), (q7, .inl (X.ac 0, 96, .inl (fun _ => 0))), (q8, .inl (X.ac 0, 24, .inl (fun _ => 0))), (q9, .inl (X.ac 1, 24, .inl (fun _ => 0))), (q10, .inl (X.ac 0, 130, .inl (fun _ => 0))), (q11, .inl (X.ac 0, 130, .inl (fun _ => 0))), (q12, .inl (X.ac 0, 130, .inl (fun _ => 0))), (q13, .inl (X.ac 0, 400, .inl (fun _ => 0)))]) C rfl (show vp_in 220 921 from vp_in_nI (n := 220) (by decide) (by decide)) dX9_init_171 rfl ?_
  refine a_iconst (pc := 172) (v := 0) C dX9_init_172 (by decide) ?_
  refine a_istore_n (pc := 173) (i := 1) C dX9_init_173 rfl (Nat.le_of_ble_eq_true rfl) rfl ?_
  show GA X K _ _ _ _ _ _ _ [some (.ref h0), some (.int 0)] _
  refine a_iload_n (pc := 174) (i := 1) C dX9_init_174 rfl rfl ?_
  refine a_bipush (pc := 175) (v := 12) C dX9_init_175 (by decide) ?_
  refine a_ge_f (pc := 177) (tgt := 198) C dX9_init_177 rfl (by decide) ?_
  refine a_aload_n (pc := 180) (i := 0) C dX9_init_180 rfl rfl ?_
  refine a_getr (pc := 181) (q0 := 0) (j := 0) (ci := 9) (N := 27) (T := TX9) (Cn := RX9) C rfl rfl inlX9 (Nat.le_of_ble_eq_true rfl) q_6_2 rfl dX9_init_181 ?_
  refine a_bipush (pc := 184) (v := 6) C dX9_init_184 (by decide) ?_
  refine a_iload_n (pc := 186) (i := 1) C dX9_init_186 rfl rfl ?_
  refine a_imul (pc := 187) (v := 0) C dX9_init_187 (by decide) ?_
  refine a_iconst (pc := 188) (v := 3) C dX9_init_188 (by decide) ?_
  refine a_iadd (pc := 189) (v := 3) C dX9_init_189 (by decide) ?_
  refine a_iconst (pc := 190) (v := (-1)) C dX9_init_190 (by decide) ?_
  refine a_iastore (pc := 191) (q0 := 1) (n := 921) ([(h0, .inr (9, [.ref q1, .ref q2, .int 0, .int 0, .ref q3, .int 0, .ref q4, .ref q5, .ref q6, .ref q7, .ref q8, .ref q9, .int 0, .int 0, .int 0, .int 0, .int 0, .ref q10, .ref q11, .int 0, .int 0, .int 0, .int 0, .ref q12, .ref q13, .int 0, .long 0])), (q1, .inl (X.ac 0, 921, .inl (upd (upd (upd (upd (upd (upd (upd (upd (upd (fun _ => 0) 221 (-1)) 227 (-1)) 233 (-1)) 239 (-1)) 245 (-1)) 216 1) 219 120) 220 60) 3 (-1)))), (q2, .inl (X.ac 0, 4605, .inl (fun _ => 0))), (q3, .inl (X.ac 0, 120, .inl (fun _ => 0))), (q4, .inl (X.ac 0, 24, .inl (fun _ => 0))), (q5, .inl (X.ac 1, 24, .inl (fun _ => 0))), (q6, .inl (X.ac 0, 48, .inl (fun _ => 0))), (q7, .inl (X.ac 0, 96, .inl (fun _ => 0))), (q8, .inl (X.ac 0, 24, .inl (fun _ => 0))), (q9, .inl (X.ac 1, 24, .inl (fun _ => 0))), (q10, .inl (X.ac 0, 130, .inl (fun _ => 0))), (q11, .inl (X.ac 0, 130, .inl (fun _ => 0))), (q12, .inl (X.ac 0, 130, .inl (fun _ => 0))), (q13, .inl (X.ac 0, 400, .inl (fun _ => 0)))]) C rfl (show vp_in 3 921 from vp_in_nI (n := 3) (by decide) (by decide)) dX9_init_191 rfl ?_
  refine a_iinc (pc := 192) (v := 1) C dX9_init_192 rfl (by decide) (Nat.le_of_ble_eq_true rfl) rfl ?_
  show GA X K _ _ _ _ _ _ _ [some (.ref h0), some (.int 1)] _
  refine a_goto (pc := 195) (tgt := 174) C dX9_init_195 rfl ?_
  refine a_iload_n (pc := 174) (i := 1) C dX9_init_174 rfl rfl ?_
  refine a_bipush (pc := 175) (v := 12) C dX9_init_175 (by decide) ?_
  refine a_ge_f (pc := 177) (tgt := 198) C dX9_init_177 rfl (by decide) ?_
  refine a_aload_n (pc := 180) (i := 0) C dX9_init_180 rfl rfl ?_
  refine a_getr (pc := 181) (q0 := 0) (j := 0) (ci := 9) (N := 27) (T := TX9) (Cn := RX9) C rfl rfl inlX9 (Nat.le_of_ble_eq_true rfl) q_6_2 rfl dX9_init_181 ?_
  refine a_bipush (pc := 184) (v := 6) C dX9_init_184 (by decide) ?_
  refine a_iload_n (pc := 186) (i := 1) C dX9_init_186 rfl rfl ?_
  refine a_imul (pc := 187) (v := 6) C dX9_init_187 (by decide) ?_
  refine a_iconst (pc := 188) (v := 3) C dX9_init_188 (by decide) ?_
  refine a_iadd (pc := 189) (v := 9) C dX9_init_189 (by decide) ?_
  refine a_iconst (pc := 190) (v := (-1)) C dX9_init_190 (by decide) ?_
  refine a_iastore (pc := 191) (q0 := 1) (n := 921) ([(h0, .inr (9, [.ref q1, .ref q2, .int 0, .int 0, .ref q3, .int 0, .ref q4, .ref q5, .ref q6, .ref q7, .ref q8, .ref q9, .int 0, .int 0, .int 0, .int 0, .int 0, .ref q10, .ref q11, .int 0, .int 0, .int 0, .int 0, .ref q12, .ref q13, .int 0, .long 0])), (q1, .inl (X.ac 0, 921, .inl (upd (upd (upd (upd (upd (upd (upd (upd (upd (upd (fun _ => 0) 221 (-1)) 227 (-1)) 233 (-1)) 239 (-1)) 245 (-1)) 216 1) 219 120) 220 60) 3 (-1)) 9 (-1)))), (q2, .inl (X.ac 0, 4605, .inl (fun _ => 0))), (q3, .inl (X.ac 0, 120, .inl (fun _ => 0))), (q4, .inl (X.ac 0, 24, .inl (fun _ => 0))), (q5, .inl (X.ac 1, 24, .inl (fun _ => 0))), (q6, .inl (X.ac 0, 48, .inl (fun _ => 0))), (q7, .inl (X.ac 0, 96, .inl (fun _ => 0))), (q8, .inl (X.ac 0, 24, .inl (fun _ => 0))), (q9, .inl (X.ac 1, 24, .inl (fun _ => 0))), (q10, .inl (X.ac 0, 130, .inl (fun _ => 0))), (q11, .inl (X.ac 0, 130, .inl (fun _ => 0))), (q12, .inl (X.ac 0, 130, .inl (fun _ => 0))), (q13, .inl (X.ac 0, 400, .inl (fun _ => 0)))]) C rfl (show vp_in 9 921 from vp_in_nI (n := 9) (by decide) (by decide)) dX9_init_191 rfl ?_
  refine a_iinc (pc := 192) (v := 2) C dX9_init_192 rfl (by decide) (Nat.le_of_ble_eq_true rfl) rfl ?_
  show GA X K _ _ _ _ _ _ _ [some (.ref h0), some (.int 2)] _
  refine a_goto (pc := 195) (tgt := 174) C dX9_init_195 rfl ?_
  refine a_iload_n (pc := 174) (i := 1) C dX9_init_174 rfl rfl ?_
  refine a_bipush (pc := 175) (v := 12) C dX9_init_175 (by decide) ?_
  refine a_ge_f (pc := 177) (tgt := 198) C dX9_init_177 rfl (by decide) ?_
  refine a_aload_n (pc := 180) (i := 0) C dX9_init_180 rfl rfl ?_
  refine a_getr (pc := 181) (q0 := 0) (j := 0) (ci := 9) (N := 27) (T := TX9) (Cn := RX9) C rfl rfl inlX9 (Nat.le_of_ble_eq_true rfl) q_6_2 rfl dX9_init_181 ?_
  refine a_bipush (pc := 184) (v := 6) C dX9_init_184 (by decide) ?_
  refine a_iload_n (pc := 186) (i := 1) C dX9_init_186 rfl rfl ?_
  refine a_imul (pc := 187) (v := 12) C dX9_init_187 (by decide) ?_
  refine a_iconst (pc := 188) (v := 3) C dX9_init_188 (by decide) ?_
  refine a_iadd (pc := 189) (v := 15) C dX9_init_189 (by decide) ?_
  refine a_iconst (pc := 190) (v := (-1)) C dX9_init_190 (by decide) ?_
  refine a_iastore (pc := 191) (q0 := 1) (n := 921) ([(h0, .inr (9, [.ref q1, .ref q2, .int 0, .int 0, .ref q3, .int 0, .ref q4, .ref q5, .ref q6, .ref q7, .ref q8, .ref q9, .int 0, .int 0, .int 0, .int 0, .int 0, .ref q10, .ref q11, .int 0, .int 0, .int 0, .int 0, .ref q12, .ref q13, .int 0, .long 0])), (q1, .inl (X.ac 0, 921, .inl (upd (upd (upd (upd (upd (upd (upd (upd (upd (upd (upd (fun _ => 0) 221 (-1)) 227 (-1)) 233 (-1)) 239 (-1)) 245 (-1)) 216 1) 219 120) 220 60) 3 (-1)) 9 (-1)) 15 (-1)))), (q2, .inl (X.ac 0, 4605, .inl (fun _ => 0))), (q3, .inl (X.ac 0, 120, .inl (fun _ => 0))), (q4, .inl (X.ac 0, 24, .inl (fun _ => 0))), (q5, .inl (X.ac 1, 24, .inl (fun _ => 0))), (q6, .inl (X.ac 0, 48, .inl (fun _ => 0))), (q7, .inl (X.ac 0, 96, .inl (fun _ => 0))), (q8, .inl (X.ac 0, 24, .inl (fun _ => 0))), (q9, .inl (X.ac 1, 24, .inl (fun _ => 0))), (q10, .inl (X.ac 0, 130, .inl (fun _ => 0))), (q11, .inl (X.ac 0, 130, .inl (fun _ => 0))), (q12, .inl (X.ac 0, 130, .inl (fun _ => 0))), (q13, .inl (X.ac 0, 400, .inl (fun _ => 0)))]) C rfl (show vp_in 15 921 from vp_in_nI (n := 15) (by decide) (by decide)) dX9_init_191 rfl ?_
  refine a_iinc (pc := 192) (v := 3) C dX9_init_192 rfl (by decide) (Nat.le_of_ble_eq_true rfl) rfl ?_
  show GA X K _ _ _ _ _ _ _ [some (.ref h0), some (.int 3)] _
  refine a_goto (pc := 195) (tgt := 174) C dX9_init_195 rfl ?_
  refine a_iload_n (pc := 174) (i := 1) C dX9_init_174 rfl rfl ?_
  refine a_bipush (pc := 175) (v := 12) C dX9_init_175 (by decide) ?_
  refine a_ge_f (pc := 177) (tgt := 198) C dX9_init_177 rfl (by decide) ?_
  refine a_aload_n (pc := 180) (i := 0) C dX9_init_180 rfl rfl ?_
  refine a_getr (pc := 181) (q0 := 0) (j := 0) (ci := 9) (N := 27) (T := TX9) (Cn := RX9) C rfl rfl inlX9 (Nat.le_of_ble_eq_true rfl) q_6_2 rfl dX9_init_181 ?_
  refine a_bipush (pc := 184) (v := 6) C dX9_init_184 (by decide) ?_
  refine a_iload_n (pc := 186) (i := 1) C dX9_init_186 rfl rfl ?_
  refine a_imul (pc := 187) (v := 18) C dX9_init_187 (by decide) ?_
  refine a_iconst (pc := 188) (v := 3) C dX9_init_188 (by decide) ?_
  refine a_iadd (pc := 189) (v := 21) C dX9_init_189 (by decide) ?_
  refine a_iconst (pc := 190) (v := (-1)) C dX9_init_190 (by decide) ?_
  refine a_iastore (pc := 191) (q0 := 1) (n := 921) ([(h0, .inr (9, [.ref q1, .ref q2, .int 0, .int 0, .ref q3, .int 0, .ref q4, .ref q5, .ref q6, .ref q7, .ref q8, .ref q9, .int 0, .int 0, .int 0, .int 0, .int 0, .ref q10, .ref q11, .int 0, .int 0, .int 0, .int 0, .ref q12, .ref q13, .int 0, .long 0])), (q1, .inl (X.ac 0, 921, .inl (upd (upd (upd (upd (upd (upd (upd (upd (upd (upd (upd (upd (fun _ => 0) 221 (-1)) 227 (-1)) 233 (-1)) 239 (-1)) 245 (-1)) 216 1) 219 120) 220 60) 3 (-1)) 9 (-1)) 15 (-1)) 21 (-1)))), (q2, .inl (X.ac 0, 4605, .inl (fun _ => 0))), (q3, .inl (X.ac 0, 120, .inl (fun _ => 0))), (q4, .inl (X.ac 0, 24, .inl (fun _ => 0))), (q5, .inl (X.ac 1, 24, .inl (fun _ => 0))), (q6, .inl (X.ac 0, 48, .inl (fun _ => 0))), (q7, .inl (X.ac 0, 96, .inl (fun _ => 0))), (q8, .inl (X.ac 0, 24, .inl (fun _ => 0))), (q9, .inl (X.ac 1, 24, .inl (fun _ => 0))), (q10, .inl (X.ac 0, 130, .inl (fun _ => 0))), (q11, .inl (X.ac 0, 130, .inl (fun _ => 0))), (q12, .inl (X.ac 0, 130, .inl (fun _ => 0))), (q13, .inl (X.ac 0, 400, .inl (fun _ => 0)))]) C rfl (show vp_in 21 921 from vp_in_nI (n := 21) (by decide) (by decide)) dX9_init_191 rfl ?_
  refine a_iinc (pc := 192) (v := 4) C dX9_init_192 rfl (by decide) (Nat.le_of_ble_eq_true rfl) rfl ?_
  show GA X K _ _ _ _ _ _ _ [some (.ref h0), some (.int 4)] _
  refine a_goto (pc := 195) (tgt := 174) C dX9_init_195 rfl ?_
  refine a_iload_n (pc := 174) (i := 1) C dX9_init_174 rfl rfl ?_
  refine a_bipush (pc := 175) (v := 12) C dX9_init_175 (by decide) ?_
  refine a_ge_f (pc := 177) (tgt := 198) C dX9_init_177 rfl (by decide) ?_
  refine a_aload_n (pc := 180) (i := 0) C dX9_init_180 rfl rfl ?_
  refine a_getr (pc := 181) (q0 := 0) (j := 0) (ci := 9) (N := 27) (T := TX9) (Cn := RX9) C rfl rfl inlX9 (Nat.le_of_ble_eq_true rfl) q_6_2 rfl dX9_init_181 ?_
  refine a_bipush (pc := 184) (v := 6) C dX9_init_184 (by decide) ?_
  refine a_iload_n (pc := 186) (i := 1) C dX9_init_186 rfl rfl ?_
  refine a_imul (pc := 187) (v := 24) C dX9_init_187 (by decide) ?_
  refine a_iconst (pc := 188) (v := 3) C dX9_init_188 (by decide) ?_
  refine a_iadd (pc := 189) (v := 27) C dX9_init_189 (by decide) ?_
  refine a_iconst (pc := 190) (v := (-1)) C dX9_init_190 (by decide) ?_
  refine a_iastore (pc := 191) (q0 := 1) (n := 921) ([(h0, .inr (9, [.ref q1, .ref q2, .int 0, .int 0, .ref q3, .int 0, .ref q4, .ref q5, .ref q6, .ref q7, .ref q8, .ref q9, .int 0, .int 0, .int 0, .int 0, .int 0, .ref q10, .ref q11, .int 0, .int 0, .int 0, .int 0, .ref q12, .ref q13, .int 0, .long 0])), (q1, .inl (X.ac 0, 921, .inl (upd (upd (upd (upd (upd (upd (upd (upd (upd (upd (upd (upd (upd (fun _ => 0) 221 (-1)) 227 (-1)) 233 (-1)) 239 (-1)) 245 (-1)) 216 1) 219 120) 220 60) 3 (-1)) 9 (-1)) 15 (-1)) 21 (-1)) 27 (-1)))), (q2, .inl (X.ac 0, 4605, .inl (fun _ => 0))), (q3, .inl (X.ac 0, 120, .inl (fun _ => 0))), (q4, .inl (X.ac 0, 24, .inl (fun _ => 0))), (q5, .inl (X.ac 1, 24, .inl (fun _ => 0))), (q6, .inl (X.ac 0, 48, .inl (fun _ => 0))), (q7, .inl (X.ac 0, 96, .inl (fun _ => 0))), (q8, .inl (X.ac 0, 24, .inl (fun _ => 0))), (q9, .inl (X.ac 1, 24, .inl (fun _ => 0))), (q10, .inl (X.ac 0, 130, .inl (fun _ => 0))), (q11, .inl (X.ac 0, 130, .inl (fun _ => 0))), (q12, .inl (X.ac 0, 130, .inl (fun _ => 0))), (q13, .inl (X.ac 0, 400, .inl (fun _ => 0)))]) C rfl (show vp_in 27 921 from vp_in_nI (n := 27) (by decide) (by decide)) dX9_init_191 rfl ?_
  refine a_iinc (pc := 192) (v := 5) C dX9_init_192 rfl (by decide) (Nat.le_of_ble_eq_true rfl) rfl ?_
  show GA X K _ _ _ _ _ _ _ [some (.ref h0), some (.int 5)] _
  refine a_goto (pc := 195) (tgt := 174) C dX9_init_195 rfl ?_
  refine a_iload_n (pc := 174) (i := 1) C dX9_init_174 rfl rfl ?_
  refine a_bipush (pc := 175) (v := 12) C dX9_init_175 (by decide) ?_
  refine a_ge_f (pc := 177) (tgt := 198) C dX9_init_177 rfl (by decide) ?_
  refine a_aload_n (pc := 180) (i := 0) C dX9_init_180 rfl rfl ?_
  refine a_getr (pc := 181) (q0 := 0) (j := 0) (ci := 9) (N := 27) (T := TX9) (Cn := RX9) C rfl rfl inlX9 (Nat.le_of_ble_eq_true rfl) q_6_2 rfl dX9_init_181 ?_
  refine a_bipush (pc := 184) (v := 6) C dX9_init_184 (by decide) ?_
  refine a_iload_n (pc := 186) (i := 1) C dX9_init_186 rfl rfl ?_
  refine a_imul (pc := 187) (v := 30) C dX9_init_187 (by decide) ?_
  refine a_iconst (pc := 188) (v := 3) C dX9_init_188 (by decide) ?_
  refine a_iadd (pc := 189) (v := 33) C dX9_init_189 (by decide) ?_
  refine a_iconst (pc := 190) (v := (-1)) C dX9_init_190 (by decide) ?_
  refine a_iastore (pc := 191) (q0 := 1) (n := 921) ([(h0, .inr (9, [.ref q1, .ref q2, .int 0, .int 0, .ref q3, .int 0, .ref q4, .ref q5, .ref q6, .ref q7, .ref q8, .ref q9, .int 0, .int 0, .int 0, .int 0, .int 0, .ref q10, .ref q11, .int 0, .int 0, .int 0, .int 0, .ref q12, .ref q13, .int 0, .long 0])), (q1, .inl (X.ac 0, 921, .inl (upd (upd (upd (upd (upd (upd (upd (upd (upd (upd (upd (upd (upd (upd (fun _ => 0) 221 (-1)) 227 (-1)) 233 (-1)) 239 (-1)) 245 (-1)) 216 1) 219 120) 220 60) 3 (-1)) 9 (-1)) 15 (-1)) 21 (-1)) 27 (-1)) 33 (-1)))), (q2, .inl (X.ac 0, 4605, .inl (fun _ => 0))), (q3, .inl (X.ac 0, 120, .inl (fun _ => 0))), (q4, .inl (X.ac 0, 24, .inl (fun _ => 0))), (q5, .inl (X.ac 1, 24, .inl (fun _ => 0))), (q6, .inl (X.ac 0, 48, .inl (fun _ => 0))), (q7, .inl (X.ac 0, 96, .inl (fun _ => 0))), (q8, .inl (X.ac 0, 24, .inl (fun _ => 0))), (q9, .inl (X.ac 1, 24, .inl (fun _ => 0))), (q10, .inl (X.ac 0, 130, .inl (fun _ => 0))), (q11, .inl (X.ac 0, 130, .inl (fun _ => 0))), (q12, .inl (X.ac 0, 130, .inl (fun _ => 0))), (q13, .inl (X.ac 0, 400, .inl (fun _ => 0)))]) C rfl (show vp_in 33 921 from vp_in_nI (n := 33) (by decide) (by decide)) dX9_init_191 rfl ?_
  refine a_iinc (pc := 192) (v := 6) C dX9_init_192 rfl (by decide) (Nat.le_of_ble_eq_true rfl) rfl ?_
  show GA X K _ _ _ _ _ _ _ [some (.ref h0), some (.int 6)] _
  refine a_goto (pc := 195) (tgt := 174) C dX9_init_195 rfl ?_
  refine a_iload_n (pc := 174) (i := 1) C dX9_init_174 rfl rfl ?_
  refine a_bipush (pc := 175) (v := 12) C dX9_init_175 (by decide) ?_
  refine a_ge_f (pc := 177) (tgt := 198) C dX9_init_177 rfl (by decide) ?_
  refine a_aload_n (pc := 180) (i := 0) C dX9_init_180 rfl rfl ?_
  refine a_getr (pc := 181) (q0 := 0) (j := 0) (ci := 9) (N := 27) (T := TX9) (Cn := RX9) C rfl rfl inlX9 (Nat.le_of_ble_eq_true rfl) q_6_2 rfl dX9_init_181 ?_
  refine a_bipush (pc := 184) (v := 6) C dX9_init_184 (by decide) ?_
  refine a_iload_n (pc := 186) (i := 1) C dX9_init_186 rfl rfl ?_
  refine a_imul (pc := 187) (v := 36) C dX9_init_187 (by decide) ?_
  refine a_iconst (pc := 188) (v := 3) C dX9_init_188 (by decide) ?_
  refine a_iadd (pc := 189) (v := 39) C dX9_init_189 (by decide) ?_
  refine a_iconst (pc := 190) (v := (-1)) C dX9_init_190 (by decide) ?_
  refine a_iastore (pc := 191) (q0 := 1) (n := 921) ([(h0, .inr (9, [.ref q1, .ref q2, .int 0, .int 0, .ref q3, .int 0, .ref q4, .ref q5, .ref q6, .ref q7, .ref q8, .ref q9, .int 0, .int 0, .int 0, .int 0, .int 0, .ref q10, .ref q11, .int 0, .int 0, .int 0, .int 0, .ref q12, .ref q13, .int 0, .long 0])), (q1, .inl (X.ac 0, 921, .inl (upd (upd (upd (upd (upd (upd (upd (upd (upd (upd (upd (upd (upd (upd (upd (fun _ => 0) 221 (-1)) 227 (-1)) 233 (-1)) 239 (-1)) 245 (-1)) 216 1) 219 120) 220 60) 3 (-1)) 9 (-1)) 15 (-1)) 21 (-1)) 27 (-1)) 33 (-1)) 39 (-1)))), (q2, .inl (X.ac 0, 4605, .inl (fun _ => 0))), (q3, .inl (X.ac 0, 120, .inl (fun _ => 0))), (q4, .inl (X.ac 0, 24, .inl (fun _ => 0))), (q5, .inl (X.ac 1, 24, .inl (fun _ => 0))), (q6, .inl (X.ac 0, 48, .inl (fun _ => 0))), (q7, .inl (X.ac 0, 96, .inl (fun _ => 0))), (q8, .inl (X.ac 0, 24, .inl (fun _ => 0))), (q9, .inl (X.ac 1, 24, .inl (fun _ => 0))), (q10, .inl (X.ac 0, 130, .inl (fun _ => 0))), (q11, .inl (X.ac 0, 130, .inl (fun _ => 0))), (q12, .inl (X.ac 0, 130, .inl (fun _ => 0))), (q13, .inl (X.ac 0, 400, .inl (fun _ => 0)))]) C rfl (show vp_in 39 921 from vp_in_nI (n := 39) (by decide) (by decide)) dX9_init_191 rfl ?_
  refine a_iinc (pc := 192) (v := 7) C dX9_init_192 rfl (by decide) (Nat.le_of_ble_eq_true rfl) rfl ?_
  show GA X K _ _ _ _ _ _ _ [some (.ref h0), some (.int 7)] _
  refine a_goto (pc := 195) (tgt := 174) C dX9_init_195 rfl ?_
  refine a_iload_n (pc := 174) (i := 1) C dX9_init_174 rfl rfl ?_
  refine a_bipush (pc := 175) (v := 12) C dX9_init_175 (by decide) ?_
  refine a_ge_f (pc := 177) (tgt := 198) C dX9_init_177 rfl (by decide) ?_
  refine a_aload_n (pc := 180) (i := 0) C dX9_init_180 rfl rfl ?_
  refine a_getr (pc := 181) (q0 := 0) (j := 0) (ci := 9) (N := 27) (T := TX9) (Cn := RX9) C rfl rfl inlX9 (Nat.le_of_ble_eq_true rfl) q_6_2 rfl dX9_init_181 ?_
  refine a_bipush (pc := 184) (v := 6) C dX9_init_184 (by decide) ?_
  refine a_iload_n (pc := 186) (i := 1) C dX9_init_186 rfl rfl ?_
  refine a_imul (pc := 187) (v := 42) C dX9_init_187 (by decide) ?_
  refine a_iconst (pc := 188) (v := 3) C dX9_init_188 (by decide) ?_
  refine a_iadd (pc := 189) (v := 45) C dX9_init_189 (by decide) ?_
  refine a_iconst (pc := 190) (v := (-1)) C dX9_init_190 (by decide) ?_
  refine a_iastore (pc := 191) (q0 := 1) (n := 921) ([(h0, .inr (9, [.ref q1, .ref q2, .int 0, .int 0, .ref q3, .int 0, .ref q4, .ref q5, .ref q6, .ref q7, .ref q8, .ref q9, .int 0, .int 0, .int 0, .int 0, .int 0, .ref q10, .ref q11, .int 0, .int 0, .int 0, .int 0, .ref q12, .ref q13, .int 0, .long 0])), (q1, .inl (X.ac 0, 921, .inl (upd (upd (upd (upd (upd (upd (upd (upd (upd (upd (upd (upd (upd (upd (upd (upd (fun _ => 0) 221 (-1)) 227 (-1)) 233 (-1)) 239 (-1)) 245 (-1)) 216 1) 219 120) 220 60) 3 (-1)) 9 (-1)) 15 (-1)) 21 (-1)) 27 (-1)) 33 (-1)) 39 (-1)) 45 (-1)))), (q2, .inl (X.ac 0, 4605, .inl (fun _ => 0))), (q3, .inl (X.ac 0, 120, .inl (fun _ => 0))), (q4, .inl (X.ac 0, 24, .inl (fun _ => 0))), (q5, .inl (X.ac 1, 24, .inl (fun _ => 0))), (q6, .inl (X.ac 0, 48, .inl (fun _ => 0))), (q7, .inl (X.ac 0, 96, .inl (fun _ => 0))), (q8, .inl (X.ac 0, 24, .inl (fun _ => 0))), (q9, .inl (X.ac 1, 24, .inl (fun _ => 0))), (q10, .inl (X.ac 0, 130, .inl (fun _ => 0))), (q11, .inl (X.ac 0, 130, .inl (fun _ => 0))), (q12, .inl (X.ac 0, 130, .inl (fun _ => 0))), (q13, .inl (X.ac 0, 400, .inl (fun _ => 0)))]) C rfl (show vp_in 45 921 from vp_in_nI (n := 45) (by decide) (by decide)) dX9_init_191 rfl ?_
  refine a_iinc (pc := 192) (v := 8) C dX9_init_192 rfl (by decide) (Nat.le_of_ble_eq_true rfl) rfl ?_
  show GA X K _ _ _ _ _ _ _ [some (.ref h0), some (.int 8)] _
  refine a_goto (pc := 195) (tgt := 174) C dX9_init_195 rfl ?_
  refine a_iload_n (pc := 174) (i := 1) C dX9_init_174 rfl rfl ?_
  refine a_bipush (pc := 175) (v := 12) C dX9_init_175 (by decide) ?_
  refine a_ge_f (pc := 177) (tgt := 198) C dX9_init_177 rfl (by decide) ?_
  refine a_aload_n (pc := 180) (i := 0) C dX9_init_180 rfl rfl ?_
  refine a_getr (pc := 181) (q0 := 0) (j := 0) (ci := 9) (N := 27) (T := TX9) (Cn := RX9) C rfl rfl inlX9 (Nat.le_of_ble_eq_true rfl) q_6_2 rfl dX9_init_181 ?_
  refine a_bipush (pc := 184) (v := 6) C dX9_init_184 (by decide) ?_
  refine a_iload_n (pc := 186) (i := 1) C dX9_init_186 rfl rfl ?_
  refine a_imul (pc := 187) (v := 48) C dX9_init_187 (by decide) ?_
  refine a_iconst (pc := 188) (v := 3) C dX9_init_188 (by decide) ?_
  refine a_iadd (pc := 189) (v := 51) C dX9_init_189 (by decide) ?_
  refine a_iconst (pc := 190) (v := (-1)) C dX9_init_190 (by decide) ?_
  refine a_iastore (pc := 191) (q0 := 1) (n := 921) ([(h0, .inr (9, [.ref q1, .ref q2, .int 0, .int 0, .ref q3, .int 0, .ref q4, .ref q5, .ref q6, .ref q7, .ref q8, .ref q9, .int 0, .int 0, .int 0, .int 0, .int 0, .ref q10, .ref q11, .int 0, .int 0, .int 0, .int 0, .ref q12, .ref q13, .int 0, .long 0])), (q1, .inl (X.ac 0, 921, .inl (upd (upd (upd (upd (upd (upd (upd (upd (upd (upd (upd (upd (upd (upd (upd (upd (upd (fun _ => 0) 221 (-1)) 227 (-1)) 233 (-1)) 239 (-1)) 245 (-1)) 216 1) 219 120) 220 60) 3 (-1)) 9 (-1)) 15 (-1)) 21 (-1)) 27 (-1)) 33 (-1)) 39 (-1)) 45 (-1)) 51 (-1)))), (q2, .inl (X.ac 0, 4605, .inl (fun _ => 0))), (q3, .inl (X.ac 0, 120, .inl (fun _ => 0))), (q4, .inl (X.ac 0, 24, .inl (fun _ => 0))), (q5, .inl (X.ac 1, 24, .inl (fun _ => 0))), (q6, .inl (X.ac 0, 48, .inl (fun _ => 0))), (q7, .inl (X.ac 0, 96, .inl (fun _ => 0))), (q8, .inl (X.ac 0, 24, .inl (fun _ => 0))), (q9, .inl (X.ac 1, 24, .inl (fun _ => 0))), (q10, .inl (X.ac 0, 130, .inl (fun _ => 0))), (q11, .inl (X.ac 0, 130, .inl (fun _ => 0))), (q12, .inl (X.ac 0, 130, .inl (fun _ => 0))), (q13, .inl (X.ac 0, 400, .inl (fun _ => 0)))]) C rfl (show vp_in 51 921 from vp_in_nI (n := 51) (by decide) (by decide)) dX9_init_191 rfl ?_
  refine a_iinc (pc := 192) (v := 9) C dX9_init_192 rfl (by decide) (Nat.le_of_ble_eq_true rfl) rfl ?_
  show GA X K _ _ _ _ _ _ _ [some (.ref h0), some (.int 9)] _
  refine a_goto (pc := 195) (tgt := 174) C dX9_init_195 rfl ?_
  refine a_iload_n (pc := 174) (i := 1) C dX9_init_174 rfl rfl ?_
  refine a_bipush (pc := 175) (v := 12) C dX9_init_175 (by decide) ?_
  refine a_ge_f (pc := 177) (tgt := 198) C dX9_init_177 rfl (by decide) ?_
  refine a_aload_n (pc := 180) (i := 0) C dX9_init_180 rfl rfl ?_
  refine a_getr (pc := 181) (q0 := 0) (j := 0) (ci := 9) (N := 27) (T := TX9) (Cn := RX9) C rfl rfl inlX9 (Nat.le_of_ble_eq_true rfl) q_6_2 rfl dX9_init_181 ?_
  refine a_bipush (pc := 184) (v := 6) C dX9_init_184 (by decide) ?_
  refine a_iload_n (pc := 186) (i := 1) C dX9_init_186 rfl rfl ?_
  refine a_imul (pc := 187) (v := 54) C dX9_init_187 (by decide) ?_
  refine a_iconst (pc := 188) (v := 3) C dX9_init_188 (by decide) ?_
  refine a_iadd (pc := 189) (v := 57) C dX9_init_189 (by decide) ?_
  refine a_iconst (pc := 190) (v := (-1)) C dX9_init_190 (by decide) ?_
  refine a_iastore (pc := 191) (q0 := 1) (n := 921) ([(h0, .inr (9, [.ref q1, .ref q2, .int 0, .int 0, .ref q3, .int 0, .ref q4, .ref q5, .ref q6, .ref q7, .ref q8, .ref q9, .int 0, .int 0, .int 0, .int 0, .int 0, .ref q10, .ref q11, .int 0, .int 0, .int 0, .int 0, .ref q12, .ref q13, .int 0, .long 0])), (q1, .inl (X.ac 0, 921, .inl (upd (upd (upd (upd (upd (upd (upd (upd (upd (upd (upd (upd (upd (upd (upd (upd (upd (upd (fun _ => 0) 221 (-1)) 227 (-1)) 233 (-1)) 239 (-1)) 245 (-1)) 216 1) 219 120) 220 60) 3 (-1)) 9 (-1)) 15 (-1)) 21 (-1)) 27 (-1)) 33 (-1)) 39 (-1)) 45 (-1)) 51 (-1)) 57 (-1)))), (q2, .inl (X.ac 0, 4605, .inl (fun _ => 0))), (q3, .inl (X.ac 0, 120, .inl (fun _ => 0))), (q4, .inl (X.ac 0, 24, .inl (fun _ => 0))), (q5, .inl (X.ac 1, 24, .inl (fun _ => 0))), (q6, .inl (X.ac 0, 48, .inl (fun _ => 0))), (q7, .inl (X.ac 0, 96, .inl (fun _ => 0))), (q8, .inl (X.ac 0, 24, .inl (fun _ => 0))), (q9, .inl (X.ac 1, 24, .inl (fun _ => 0))), (q10, .inl (X.ac 0, 130, .inl (fun _ => 0))), (q11, .inl (X.ac 0, 130, .inl (fun _ => 0))), (q12, .inl (X.ac 0, 130, .inl (fun _ => 0))), (q13, .inl (X.ac 0, 400, .inl (fun _ => 0)))]) C rfl (show vp_in 57 921 from vp_in_nI (n := 57) (by decide) (by decide)) dX9_init_191 rfl ?_
  refine a_iinc (pc := 192) (v := 10) C dX9_init_192 rfl (by decide) (Nat.le_of_ble_eq_true rfl) rfl ?_
  show GA X K _ _ _ _ _ _ _ [some (.ref h0), some (.int 10)] _
  refine a_goto (pc := 195) (tgt := 174) C dX9_init_195 rfl ?_
  refine a_iload_n (pc := 174) (i := 1) C dX9_init_174 rfl rfl ?_
  refine a_bipush (pc := 175) (v := 12) C dX9_init_175 (by decide) ?_
  refine a_ge_f (pc := 177) (tgt := 198) C dX9_init_177 rfl (by decide) ?_
  refine a_aload_n (pc := 180) (i := 0) C dX9_init_180 rfl rfl ?_
  refine a_getr (pc := 181) (q0 := 0) (j := 0) (ci := 9) (N := 27) (T := TX9) (Cn := RX9) C rfl rfl inlX9 (Nat.le_of_ble_eq_true rfl) q_6_2 rfl dX9_init_181 ?_
  refine a_bipush (pc := 184) (v := 6) C dX9_init_184 (by decide) ?_
  refine a_iload_n (pc := 186) (i := 1) C dX9_init_186 rfl rfl ?_
  refine a_imul (pc := 187) (v := 60) C dX9_init_187 (by decide) ?_
  refine a_iconst (pc := 188) (v := 3) C dX9_init_188 (by decide) ?_
  refine a_iadd (pc := 189) (v := 63) C dX9_init_189 (by decide) ?_
  refine a_iconst (pc := 190) (v := (-1)) C dX9_init_190 (by decide) ?_
  refine a_iastore (pc := 191) (q0 := 1) (n := 921) ([(h0, .inr (9, [.ref q1, .ref q2, .int 0, .int 0, .ref q3, .int 0, .ref q4, .ref q5, .ref q6, .ref q7, .ref q8, .ref q9, .int 0, .int 0, .int 0, .int 0, .int 0, .ref q10, .ref q11, .int 0, .int 0, .int 0, .int 0, .ref q12, .ref q13, .int 0, .long 0])), (q1, .inl (X.ac 0, 921, .inl (upd (upd (upd (upd (upd (upd (upd (upd (upd (upd (upd (upd (upd (upd (upd (upd (upd (upd (upd (fun _ => 0) 221 (-1)) 227 (-1)) 233 (-1)) 239 (-1)) 245 (-1)) 216 1) 219 120) 220 60) 3 (-1)) 9 (-1)) 15 (-1)) 21 (-1)) 27 (-1)) 33 (-1)) 39 (-1)) 45 (-1)) 51 (-1)) 57 (-1)) 63 (-1)))), (q2, .inl (X.ac 0, 4605, .inl (fun _ => 0))), (q3, .inl (X.ac 0, 120, .inl (fun _ => 0))), (q4, .inl (X.ac 0, 24, .inl (fun _ => 0))), (q5, .inl (X.ac 1, 24, .inl (fun _ => 0))), (q6, .inl (X.ac 0, 48, .inl (fun _ => 0))), (q7, .inl (X.ac 0, 96, .inl (fun _ => 0))), (q8, .inl (X.ac 0, 24, .inl (fun _ => 0))), (q9, .inl (X.ac 1, 24, .inl (fun _ => 0))), (q10, .inl (X.ac 0, 130, .inl (fun _ => 0))), (q11, .inl (X.ac 0, 130, .inl (fun _ => 0))), (q12, .inl (X.ac 0, 130, .inl (fun _ => 0))), (q13, .inl (X.ac 0, 400, .inl (fun _ => 0)))]) C rfl (show vp_in 63 921 from vp_in_nI (n := 63) (by decide) (by decide)) dX9_init_191 rfl ?_
  refine a_iinc (pc := 192) (v := 11) C dX9_init_192 rfl (by decide) (Nat.le_of_ble_eq_true rfl) rfl ?_
  show GA X K _ _ _ _ _ _ _ [some (.ref h0), some (.int 11)] _
  refine a_goto (pc := 195) (tgt := 174) C dX9_init_195 rfl ?_
  refine a_iload_n (pc := 174) (i := 1) C dX9_init_174 rfl rfl ?_
  refine a_bipush (pc := 175) (v := 12) C dX9_init_175 (by decide) ?_
  refine a_ge_f (pc := 177) (tgt := 198) C dX9_init_177 rfl (by decide) ?_
  refine a_aload_n (pc := 180) (i := 0) C dX9_init_180 rfl rfl ?_
  refine a_getr (pc := 181) (q0 := 0) (j := 0) (ci := 9) (N := 27) (T := TX9) (Cn := RX9) C rfl rfl inlX9 (Nat.le_of_ble_eq_true rfl) q_6_2 rfl dX9_init_181 ?_
  refine a_bipush (pc := 184) (v := 6) C dX9_init_184 (by decide) ?_
  refine a_iload_n (pc := 186) (i := 1) C dX9_init_186 rfl rfl ?_
  refine a_imul (pc := 187) (v := 66) C dX9_init_187 (by decide) ?_
  refine a_iconst (pc := 188) (v := 3) C dX9_init_188 (by decide) ?_
  refine a_iadd (pc := 189) (v := 69) C dX9_init_189 (by decide) ?_
  refine a_iconst (pc := 190) (v := (-1)) C dX9_init_190 (by decide) ?_
  refine a_iastore (pc := 191) (q0 := 1) (n := 921) ([(h0, .inr (9, [.ref q1, .ref q2, .int 0, .int 0, .ref q3, .int 0, .ref q4, .ref q5, .ref q6, .ref q7, .ref q8, .ref q9, .int 0, .int 0, .int 0, .int 0, .int 0, .ref q10, .ref q11, .int 0, .int 0, .int 0, .int 0, .ref q12, .ref q13, .int 0, .long 0])), (q1, .inl (X.ac 0, 921, .inl (upd (upd (upd (upd (upd (upd (upd (upd (upd (upd (upd (upd (upd (upd (upd (upd (upd (upd (upd (upd (fun _ => 0) 221 (-1)) 227 (-1)) 233 (-1)) 239 (-1)) 245 (-1)) 216 1) 219 120) 220 60) 3 (-1)) 9 (-1)) 15 (-1)) 21 (-1)) 27 (-1)) 33 (-1)) 39 (-1)) 45 (-1)) 51 (-1)) 57 (-1)) 63 (-1)) 69 (-1)))), (q2, .inl (X.ac 0, 4605, .inl (fun _ => 0))), (q3, .inl (X.ac 0, 120, .inl (fun _ => 0))), (q4, .inl (X.ac 0, 24, .inl (fun _ => 0))), (q5, .inl (X.ac 1, 24, .inl (fun _ => 0))), (q6, .inl (X.ac 0, 48, .inl (fun _ => 0))), (q7, .inl (X.ac 0, 96, .inl (fun _ => 0))), (q8, .inl (X.ac 0, 24, .inl (fun _ => 0))), (q9, .inl (X.ac 1, 24, .inl (fun _ => 0))), (q10, .inl (X.ac 0, 130, .inl (fun _ => 0))), (q11, .inl (X.ac 0, 130, .inl (fun _ => 0))), (q12, .inl (X.ac 0, 130, .inl (fun _ => 0))), (q13, .inl (X.ac 0, 400, .inl (fun _ => 0)))]) C rfl (show vp_in 69 921 from vp_in_nI (n := 69) (by decide) (by decide)) dX9_init_191 rfl ?_
  refine a_iinc (pc := 192) (v := 12) C dX9_init_192 rfl (by decide) (Nat.le_of_ble_eq_true rfl) rfl ?_
  show GA X K _ _ _ _ _ _ _ [some (.ref h0), some (.int 12)] _
  refine a_goto (pc := 195) (tgt := 174) C dX9_init_195 rfl ?_
  refine a_iload_n (pc := 174) (i := 1) C dX9_init_174 rfl rfl ?_
  refine a_bipush (pc := 175) (v := 12) C dX9_init_175 (by decide) ?_
  refine a_ge_t (pc := 177) (tgt := 198) C dX9_init_177 rfl (by decide) ?_
  exact a_vret (pc := 198) C hr hz dX9_init_198 (Nat.le_of_ble_eq_true rfl) (Nat.le_of_ble_eq_true rfl) ⟨fun k => ([h0, q1, q2, q3, q4, q5, q6, q7, q8, q9, q10, q11, q12, q13] : List Nat).getD k 0, rfl, List.Perm.refl _⟩
theorem dX8_init_0 : decode cX8_init 0 = .ok (.aload_n 0, 1) := by decide +kernel
theorem dX8_init_1 : decode cX8_init 1 = .ok (.invokespecial 1, 3) := by decide +kernel
theorem dX8_init_4 : decode cX8_init 4 = .ok (.aload_n 0, 1) := by decide +kernel
theorem dX8_init_5 : decode cX8_init 5 = .ok (.new 7, 3) := by decide +kernel
theorem dX8_init_8 : decode cX8_init 8 = .ok (.dup, 1) := by decide +kernel
theorem dX8_init_9 : decode cX8_init 9 = .ok (.invokespecial 9, 3) := by decide +kernel
theorem dX8_init_12 : decode cX8_init 12 = .ok (.putfield 10, 3) := by decide +kernel
theorem dX8_init_15 : decode cX8_init 15 = .ok (.aload_n 0, 1) := by decide +kernel
theorem dX8_init_16 : decode cX8_init 16 = .ok (.iconst 5, 1) := by decide +kernel
theorem dX8_init_17 : decode cX8_init 17 = .ok (.anewarray 7, 3) := by decide +kernel
theorem dX8_init_20 : decode cX8_init 20 = .ok (.putfield 16, 3) := by decide +kernel
theorem dX8_init_23 : decode cX8_init 23 = .ok (.aload_n 0, 1) := by decide +kernel
theorem dX8_init_24 : decode cX8_init 24 = .ok (.new 20, 3) := by decide +kernel
theorem dX8_init_27 : decode cX8_init 27 = .ok (.dup, 1) := by decide +kernel
theorem dX8_init_28 : decode cX8_init 28 = .ok (.invokespecial 22, 3) := by decide +kernel
theorem dX8_init_31 : decode cX8_init 31 = .ok (.putfield 23, 3) := by decide +kernel
theorem dX8_init_34 : decode cX8_init 34 = .ok (.aload_n 0, 1) := by decide +kernel
theorem dX8_init_35 : decode cX8_init 35 = .ok (.new 27, 3) := by decide +kernel
theorem dX8_init_38 : decode cX8_init 38 = .ok (.dup, 1) := by decide +kernel
theorem dX8_init_39 : decode cX8_init 39 = .ok (.invokespecial 29, 3) := by decide +kernel
theorem dX8_init_42 : decode cX8_init 42 = .ok (.putfield 30, 3) := by decide +kernel
theorem dX8_init_45 : decode cX8_init 45 = .ok (.aload_n 0, 1) := by decide +kernel
theorem dX8_init_46 : decode cX8_init 46 = .ok (.new 34, 3) := by decide +kernel
theorem dX8_init_49 : decode cX8_init 49 = .ok (.dup, 1) := by decide +kernel
theorem dX8_init_50 : decode cX8_init 50 = .ok (.invokespecial 36, 3) := by decide +kernel
theorem dX8_init_53 : decode cX8_init 53 = .ok (.putfield 37, 3) := by decide +kernel
theorem dX8_init_56 : decode cX8_init 56 = .ok (.aload_n 0, 1) := by decide +kernel
theorem dX8_init_57 : decode cX8_init 57 = .ok (.new 41, 3) := by decide +kernel
theorem dX8_init_60 : decode cX8_init 60 = .ok (.dup, 1) := by decide +kernel
theorem dX8_init_61 : decode cX8_init 61 = .ok (.invokespecial 43, 3) := by decide +kernel
theorem dX8_init_64 : decode cX8_init 64 = .ok (.putfield 44, 3) := by decide +kernel
theorem dX8_init_67 : decode cX8_init 67 = .ok (.iconst 0, 1) := by decide +kernel
theorem dX8_init_68 : decode cX8_init 68 = .ok (.istore_n 1, 1) := by decide +kernel
theorem dX8_init_69 : decode cX8_init 69 = .ok (.iload_n 1, 1) := by decide +kernel
theorem dX8_init_70 : decode cX8_init 70 = .ok (.aload_n 0, 1) := by decide +kernel
theorem dX8_init_71 : decode cX8_init 71 = .ok (.getfield 16, 3) := by decide +kernel
theorem dX8_init_74 : decode cX8_init 74 = .ok (.arraylength, 1) := by decide +kernel
theorem dX8_init_75 : decode cX8_init 75 = .ok (.if_icmp .ge 22, 3) := by decide +kernel
theorem dX8_init_78 : decode cX8_init 78 = .ok (.aload_n 0, 1) := by decide +kernel
theorem dX8_init_79 : decode cX8_init 79 = .ok (.getfield 16, 3) := by decide +kernel
theorem dX8_init_82 : decode cX8_init 82 = .ok (.iload_n 1, 1) := by decide +kernel
theorem dX8_init_83 : decode cX8_init 83 = .ok (.new 7, 3) := by decide +kernel
theorem dX8_init_86 : decode cX8_init 86 = .ok (.dup, 1) := by decide +kernel
theorem dX8_init_87 : decode cX8_init 87 = .ok (.invokespecial 9, 3) := by decide +kernel
theorem dX8_init_90 : decode cX8_init 90 = .ok (.aastore, 1) := by decide +kernel
theorem dX8_init_91 : decode cX8_init 91 = .ok (.iinc 1 1, 3) := by decide +kernel
theorem dX8_init_94 : decode cX8_init 94 = .ok (.goto (-25), 3) := by decide +kernel
theorem dX8_init_97 : decode cX8_init 97 = .ok (.return_, 1) := by decide +kernel
abbrev rmX8_init : Room := { frames := 14, cells := 461, slots := 6103, locals := 600 }
theorem hdX8_init : yX8_init.cls ≠ "java/lang/invoke/MethodHandle" ∧ yX8_init.cls ≠ "java/lang/invoke/VarHandle" ∧ (parseMethodDescriptor yX8_init.desc).map (fun d => d.parameters.length) = some 0 := by decide +kernel
set_option maxHeartbeats 20000000 in
theorem iX8_init (X : Xc) (h0 sz : Nat) : Met X.l yX8_init (wsM yX8_init cX8_init 2 none) rmX8_init (va_Pc [.ref h0] (PA X [(h0, .inr (8, [.null, .null, .int 0, .int 0, .null, .null, .null, .null]))] sz)) (QA X (h0, .inr (8, [.null, .null, .int 0, .int 0, .null, .null, .null, .null])) sz (fun w => ∃ q : Nat → Nat, q 0 = h0 ∧ w.Perm (dlW X q))) 461 6103 (va_A [(h0, .inr (8, [.null, .null, .int 0, .int 0, .null, .null, .null, .null]))] sz) := by
  refine ct_of (own := RX8) (lo := [some (.ref h0), none]) (by decide) rfl (Nat.le_of_ble_eq_true rfl) rfl (fun K C hr hin hz => ?_)
  refine a_aload_n (pc := 0) (i := 0) C dX8_init_0 rfl rfl ?_
  refine a_obj (pc := 1) C q_1_10 q_1_11 q_1_12 (Nat.le_of_ble_eq_true rfl) (Nat.le_of_ble_eq_true rfl) dX8_init_1 ?_
  refine a_aload_n (pc := 4) (i := 0) C dX8_init_4 rfl rfl ?_
  refine a_new (pc := 5) (ci := 4) (N := 7) (T := TX4) (Cn := RX4) (fs := [.int 0, .null, .null, .null, .null, .null, .int 0]) (fun q1 => [(h0, .inr (8, [.null, .null, .int 0, .int 0, .null, .null, .null, .null])), (q1, .inr (4, [.int 0, .null, .null, .null, .null, .null, .int 0]))]) C rfl inlX4 tyX4_ok q_1_13 q_1_14 q_1_15 (fun j hj => by rcases (show j = 0 ∨ j = 1 ∨ j = 2 ∨ j = 3 ∨ j = 4 ∨ j = 5 ∨ j = 6 by omega) with rfl | rfl | rfl | rfl | rfl | rfl | rfl <;> rfl) (Nat.le_of_ble_eq_true rfl) (Nat.le_of_ble_eq_true rfl) dX8_init_5 (fun _ => rfl) (fun q1 => ?_)
  refine a_dup (pc := 8) C dX8_init_8 rfl ?_
  refine a_init (pc := 9) (W0 := [(h0, .inr (8, [.null, .null, .int 0, .int 0, .null, .null, .null, .null]))]) C (fun sz => iX4_init X q1 sz) q_2_10 q_2_11 q_1_15 q_2_12 rfl hdX4_init ⟨Nat.le_of_ble_eq_true rfl, Nat.le_of_ble_eq_true rfl, rfl, rfl, Nat.le_of_ble_eq_true rfl, Nat.le_of_ble_eq_true rfl⟩ (Nat.le_of_ble_eq_true rfl) dX8_init_9 rfl (fun w2 hw3 => ?_)
  obtain ⟨q4, e5, p6⟩ := hw3
  subst e5
  refine a_perm (List.Perm.append_left _ p6) ?_
  refine a_eq (ws' := (h0, .inr (8, [.null, .null, .int 0, .int 0, .null, .null, .null, .null])) :: (stW X q4)) rfl ?_
  refine a_putF (pc := 12) (q0 := 0) (j := 0) (ci := 8) (N := 8) (T := TX8) (Cn := RX8) ((h0, .inr (8, [.ref (q4 0), .null, .int 0, .int 0, .null, .null, .null, .null])) :: (stW X q4)) C hin rfl rfl inlX8 tyX8_ok nmX8 (Nat.le_of_ble_eq_true rfl) q_1_16 rfl rfl rfl rfl (Nat.le_of_ble_eq_true rfl) dX8_init_12 rfl ?_
  refine a_aload_n (pc := 15) (i := 0) C dX8_init_15 rfl rfl ?_
  refine a_iconst (pc := 16) (v := 5) C dX8_init_16 (by decide) ?_
  refine a_anewS (pc := 17) (N := 5) (fun q7 => (h0, .inr (8, [.ref (q4 0), .null, .int 0, .int 0, .null, .null, .null, .null])) :: (stW X q4 ++ [(q7, .inl (X.ac 4, 5, .inr (.inr (.inr (.inr (fun _ => none))))))])) C q_1_13 (by decide) (by decide) (by decide) (Nat.le_of_ble_eq_true rfl) (Nat.le_of_ble_eq_true rfl) dX8_init_17 (fun _ => rfl) (fun q7 => ?_)
  refine a_perm (ws' := (h0, .inr (8, [.ref (q4 0), .null, .int 0, .int 0, .null, .null, .null, .null])) :: (q7, .inl (X.ac 4, 5, .inr (.inr (.inr (.inr (fun _ => none)))))) :: (stW X q4)) ((List.perm_append_singleton _ _).cons _) ?_
  refine a_putF (pc := 20) (q0 := 0) (j := 1) (ci := 8) (N := 8) (T := TX8) (Cn := RX8) ((h0, .inr (8, [.ref (q4 0), .ref q7, .int 0, .int 0, .null, .null, .null, .null])) :: (q7, .inl (X.ac 4, 5, .inr (.inr (.inr (.inr (fun _ => none)))))) :: (stW X q4)) C hin rfl rfl inlX8 tyX8_ok nmX8 (Nat.le_of_ble_eq_true rfl) q_1_17 rfl rfl rfl rfl (Nat.le_of_ble_eq_true rfl) dX8_init_20 rfl ?_
  refine a_aload_n (pc := 23) (i := 0) C dX8_init_23 rfl rfl ?_
  refine a_new (pc := 24) (ci := 2) (N := 11) (T := TX2) (Cn := RX2) (fs := [.null, .null, .null, .null, .null, .null, .null, .null, .int 0, .null, .null]) (fun q8 => (h0, .inr (8, [.ref (q4 0), .ref q7, .int 0, .int 0, .null, .null, .null, .null])) :: (q7, .inl (X.ac 4, 5, .inr (.inr (.inr (.inr (fun _ => none)))))) :: (stW X q4 ++ [(q8, .inr (2, [.null, .null, .null, .null, .null, .null, .null, .null, .int 0, .null, .null]))])) C rfl inlX2 tyX2_ok q_1_18 q_1_19 q_1_20 (fun j hj => by rcases (show j = 0 ∨ j = 1 ∨ j = 2 ∨ j = 3 ∨ j = 4 ∨ j = 5 ∨ j = 6 ∨ j = 7 ∨ j = 8 ∨ j = 9 ∨ j = 10 by omega) with rfl | rfl | rfl | rfl | rfl | rfl | rfl | rfl | rfl | rfl | rfl <;> rfl) (Nat.le_of_ble_eq_true rfl) (Nat.le_of_ble_eq_true rfl) dX8_init_24 (fun _ => rfl) (fun q8 => ?_)
  refine a_dup (pc := 27) C dX8_init_27 rfl ?_
  refine a_initN (pc := 28) (W0 := (h0, .inr (8, [.ref (q4 0), .ref q7, .int 0, .int 0, .null, .null, .null, .null])) :: (q7, .inl (X.ac 4, 5, .inr (.inr (.inr (.inr (fun _ => none)))))) :: (stW X q4)) C (fun sz => iX2_init X q8 sz) (List.mem_of_getElem? (i := 0) rfl) q_4_5 q_1_20 q_4_6 rfl hdX2_init ⟨Nat.le_of_ble_eq_true rfl, Nat.le_of_ble_eq_true rfl, rfl, rfl, Nat.le_of_ble_eq_true rfl, Nat.le_of_ble_eq_true rfl⟩ (Nat.le_of_ble_eq_true rfl) dX8_init_28 rfl (fun w9 hw10 => ?_)
  obtain ⟨q11, e12, p13⟩ := hw10
  subst e12
  refine a_perm (List.Perm.append_left _ p13) ?_
  refine a_eq (ws' := (h0, .inr (8, [.ref (q4 0), .ref q7, .int 0, .int 0, .null, .null, .null, .null])) :: (q7, .inl (X.ac 4, 5, .inr (.inr (.inr (.inr (fun _ => none)))))) :: (stW X q4 ++ pnW X q11)) rfl ?_
  refine a_putF (pc := 31) (q0 := 0) (j := 4) (ci := 8) (N := 8) (T := TX8) (Cn := RX8) ((h0, .inr (8, [.ref (q4 0), .ref q7, .int 0, .int 0, .ref (q11 0), .null, .null, .null])) :: (q7, .inl (X.ac 4, 5, .inr (.inr (.inr (.inr (fun _ => none)))))) :: (stW X q4 ++ pnW X q11)) C hin rfl rfl inlX8 tyX8_ok nmX8 (Nat.le_of_ble_eq_true rfl) q_1_21 rfl rfl rfl rfl (Nat.le_of_ble_eq_true rfl) dX8_init_31 rfl ?_
  refine a_aload_n (pc := 34) (i := 0) C dX8_init_34 rfl rfl ?_
  refine a_new (pc := 35) (ci := 5) (N := 2) (T := TX5) (Cn := RX5) (fs := [.null, .int 0]) (fun q14 => (h0, .inr (8, [.ref (q4 0), .ref q7, .int 0, .int 0, .ref (q11 0), .null, .null, .null])) :: (q7, .inl (X.ac 4, 5, .inr (.inr (.inr (.inr (fun _ => none)))))) :: (stW X q4 ++ pnW X q11 ++ [(q14, .inr (5, [.null, .int 0]))])) C rfl inlX5 tyX5_ok q_1_22 q_1_23 q_2_0 (fun j hj => by rcases (show j = 0 ∨ j = 1 by omega) with rfl | rfl <;> rfl) (Nat.le_of_ble_eq_true rfl) (Nat.le_of_ble_eq_true rfl) dX8_init_35 (fun _ => rfl) (fun q14 => ?_)
  refine a_dup (pc := 38) C dX8_init_38 rfl ?_
  refine a_initN (pc := 39) (W0 := (h0, .inr (8, [.ref (q4 0), .ref q7, .int 0, .int 0, .ref (q11 0), .null, .null, .null])) :: (q7, .inl (X.ac 4, 5, .inr (.inr (.inr (.inr (fun _ => none)))))) :: (stW X q4 ++ pnW X q11)) C (fun sz => iX5_init X q14 sz) (List.mem_of_getElem? (i := 1) rfl) q_5_5 q_2_0 q_5_6 rfl hdX5_init ⟨Nat.le_of_ble_eq_true rfl, Nat.le_of_ble_eq_true rfl, rfl, rfl, Nat.le_of_ble_eq_true rfl, Nat.le_of_ble_eq_true rfl⟩ (Nat.le_of_ble_eq_true rfl) dX8_init_39 rfl (fun w15 hw16 => ?_)
  obtain ⟨q17, e18, p19⟩ := hw16
  subst e18
  refine a_perm (List.Perm.append_left _ p19) ?_
  refine a_eq (ws' := (h0, .inr (8, [.ref (q4 0), .ref q7, .int 0, .int 0, .ref (q11 0), .null, .null, .null])) :: (q7, .inl (X.ac 4, 5, .inr (.inr (.inr (.inr (fun _ => none)))))) :: ((stW X q4 ++ pnW X q11) ++ txW X q17)) rfl ?_
  refine a_putF (pc := 42) (q0 := 0) (j := 5) (ci := 8) (N := 8) (T := TX8) (Cn := RX8) ((h0, .inr (8, [.ref (q4 0), .ref q7, .int 0, .int 0, .ref (q11 0), .ref (q17 0), .null, .null])) :: (q7, .inl (X.ac 4, 5, .inr (.inr (.inr (.inr (fun _ => none)))))) :: ((stW X q4 ++ pnW X q11) ++ txW X q17)) C hin rfl rfl inlX8 tyX8_ok nmX8 (Nat.le_of_ble_eq_true rfl) q_2_1 rfl rfl rfl rfl (Nat.le_of_ble_eq_true rfl) dX8_init_42 rfl ?_
  refine a_aload_n (pc := 45) (i := 0) C dX8_init_45 rfl rfl ?_
  refine a_new (pc := 46) (ci := 6) (N := 4) (T := TX6) (Cn := RX6) (fs := [.null, .null, .int 0, .int 0]) (fun q20 => (h0, .inr (8, [.ref (q4 0), .ref q7, .int 0, .int 0, .ref (q11 0), .ref (q17 0), .null, .null])) :: (q7, .inl (X.ac 4, 5, .inr (.inr (.inr (.inr (fun _ => none)))))) :: ((stW X q4 ++ pnW X q11) ++ txW X q17 ++ [(q20, .inr (6, [.null, .null, .int 0, .int 0]))])) C rfl inlX6 tyX6_ok q_2_2 q_2_3 q_2_4 (fun j hj => by rcases (show j = 0 ∨ j = 1 ∨ j = 2 ∨ j = 3 by omega) with rfl | rfl | rfl | rfl <;> rfl) (Nat.le_of_ble_eq_true rfl) (Nat.le_of_ble_eq_true rfl) dX8_init_46 (fun _ => rfl) (fun q20 => ?_)
  refine a_dup (pc := 49) C dX8_init_49 rfl ?_
  refine a_initN (pc := 50) (W0 := (h0, .inr (8, [.ref (q4 0), .ref q7, .int 0, .int 0, .ref (q11 0), .ref (q17 0), .null, .null])) :: (q7, .inl (X.ac 4, 5, .inr (.inr (.inr (.inr (fun _ => none)))))) :: ((stW X q4 ++ pnW X q11) ++ txW X q17)) C (fun sz => iX6_init X q20 sz) (List.mem_of_getElem? (i := 2) rfl) q_5_9 q_2_4 q_5_10 rfl hdX6_init ⟨Nat.le_of_ble_eq_true rfl, Nat.le_of_ble_eq_true rfl, rfl, rfl, Nat.le_of_ble_eq_true rfl, Nat.le_of_ble_eq_true rfl⟩ (Nat.le_of_ble_eq_true rfl) dX8_init_50 rfl (fun w21 hw22 => ?_)
  obtain ⟨q23, e24, p25⟩ := hw22
  subst e24
  refine a_perm (List.Perm.append_left _ p25) ?_
  refine a_eq (ws' := (h0, .inr (8, [.ref (q4 0), .ref q7, .int 0, .int 0, .ref (q11 0), .ref (q17 0), .null, .null])) :: (q7, .inl (X.ac 4, 5, .inr (.inr (.inr (.inr (fun _ => none)))))) :: (((stW X q4 ++ pnW X q11) ++ txW X q17) ++ rdW X q23)) rfl ?_
  refine a_putF (pc := 53) (q0 := 0) (j := 6) (ci := 8) (N := 8) (T := TX8) (Cn := RX8) ((h0, .inr (8, [.ref (q4 0), .ref q7, .int 0, .int 0, .ref (q11 0), .ref (q17 0), .ref (q23 0), .null])) :: (q7, .inl (X.ac 4, 5, .inr (.inr (.inr (.inr (fun _ => none)))))) :: (((stW X q4 ++ pnW X q11) ++ txW X q17) ++ rdW X q23)) C hin rfl rfl inlX8 tyX8_ok nmX8 (Nat.le_of_ble_eq_true rfl) q_2_5 rfl rfl rfl rfl (Nat.le_of_ble_eq_true rfl) dX8_init_53 rfl ?_
  refine a_aload_n (pc := 56) (i := 0) C dX8_init_56 rfl rfl ?_
  refine a_new (pc := 57) (ci := 7) (N := 1) (T := TX7) (Cn := RX7) (fs := [.null]) (fun q26 => (h0, .inr (8, [.ref (q4 0), .ref q7, .int 0, .int 0, .ref (q11 0), .ref (q17 0), .ref (q23 0), .null])) :: (q7, .inl (X.ac 4, 5, .inr (.inr (.inr (.inr (fun _ => none)))))) :: (((stW X q4 ++ pnW X q11) ++ txW X q17) ++ rdW X q23 ++ [(q26, .inr (7, [.null]))])) C rfl inlX7 tyX7_ok q_2_6 q_2_7 q_2_8 (fun j hj => by rcases (show j = 0 by omega) with rfl <;> rfl) (Nat.le_of_ble_eq_true rfl) (Nat.le_of_ble_eq_true rfl) dX8_init_57 (fun _ => rfl) (fun q26 => ?_)
  refine a_dup (pc := 60) C dX8_init_60 rfl ?_
  refine a_initN (pc := 61) (W0 := (h0, .inr (8, [.ref (q4 0), .ref q7, .int 0, .int 0, .ref (q11 0), .ref (q17 0), .ref (q23 0), .null])) :: (q7, .inl (X.ac 4, 5, .inr (.inr (.inr (.inr (fun _ => none)))))) :: (((stW X q4 ++ pnW X q11) ++ txW X q17) ++ rdW X q23)) C (fun sz => iX7_init X q26 sz) (List.mem_of_getElem? (i := 3) rfl) q_5_17 q_2_8 q_5_18 rfl hdX7_init ⟨Nat.le_of_ble_eq_true rfl, Nat.le_of_ble_eq_true rfl, rfl, rfl, Nat.le_of_ble_eq_true rfl, Nat.le_of_ble_eq_true rfl⟩ (Nat.le_of_ble_eq_true rfl) dX8_init_61 rfl (fun w27 hw28 => ?_)
  obtain ⟨q29, e30, p31⟩ := hw28
  subst e30
  refine a_perm (List.Perm.append_left _ p31) ?_
  refine a_eq (ws' := (h0, .inr (8, [.ref (q4 0), .ref q7, .int 0, .int 0, .ref (q11 0), .ref (q17 0), .ref (q23 0), .null])) :: (q7, .inl (X.ac 4, 5, .inr (.inr (.inr (.inr (fun _ => none)))))) :: ((((stW X q4 ++ pnW X q11) ++ txW X q17) ++ rdW X q23) ++ wrW X q29)) rfl ?_
  refine a_putF (pc := 64) (q0 := 0) (j := 7) (ci := 8) (N := 8) (T := TX8) (Cn := RX8) ((h0, .inr (8, [.ref (q4 0), .ref q7, .int 0, .int 0, .ref (q11 0), .ref (q17 0), .ref (q23 0), .ref (q29 0)])) :: (q7, .inl (X.ac 4, 5, .inr (.inr (.inr (.inr (fun _ => none)))))) :: ((((stW X q4 ++ pnW X q11) ++ txW X q17) ++ rdW X q23) ++ wrW X q29)) C hin rfl rfl inlX8 tyX8_ok nmX8 (Nat.le_of_ble_eq_true rfl) q_2_9 rfl rfl rfl rfl (Nat.le_of_ble_eq_true rfl) dX8_init_64 rfl ?_
  refine a_iconst (pc := 67) (v := 0) C dX8_init_67 (by decide) ?_
  refine a_istore_n (pc := 68) (i := 1) C dX8_init_68 rfl (Nat.le_of_ble_eq_true rfl) rfl ?_
  show GA X K _ _ _ _ _ _ _ [some (.ref h0), some (.int 0)] _
  refine a_iload_n (pc := 69) (i := 1) C dX8_init_69 rfl rfl ?_
  refine a_aload_n (pc := 70) (i := 0) C dX8_init_70 rfl rfl ?_
  refine a_getr (pc := 71) (q0 := 0) (j := 1) (ci := 8) (N := 8) (T := TX8) (Cn := RX8) C rfl rfl inlX8 (Nat.le_of_ble_eq_true rfl) q_1_17 rfl dX8_init_71 ?_
  refine a_alen (pc := 74) (q0 := 1) (t0 := 4) (v := 5) C rfl rfl rfl dX8_init_74 ?_
  refine a_ge_f (pc := 75) (tgt := 97) C dX8_init_75 rfl (by decide) ?_
  refine a_aload_n (pc := 78) (i := 0) C dX8_init_78 rfl rfl ?_
  refine a_getr (pc := 79) (q0 := 0) (j := 1) (ci := 8) (N := 8) (T := TX8) (Cn := RX8) C rfl rfl inlX8 (Nat.le_of_ble_eq_true rfl) q_1_17 rfl dX8_init_79 ?_
  refine a_iload_n (pc := 82) (i := 1) C dX8_init_82 rfl rfl ?_
  refine a_new (pc := 83) (ci := 4) (N := 7) (T := TX4) (Cn := RX4) (fs := [.int 0, .null, .null, .null, .null, .null, .int 0]) (fun q32 => (h0, .inr (8, [.ref (q4 0), .ref q7, .int 0, .int 0, .ref (q11 0), .ref (q17 0), .ref (q23 0), .ref (q29 0)])) :: (q7, .inl (X.ac 4, 5, .inr (.inr (.inr (.inr (fun _ => none)))))) :: ((((stW X q4 ++ pnW X q11) ++ txW X q17) ++ rdW X q23) ++ wrW X q29 ++ [(q32, .inr (4, [.int 0, .null, .null, .null, .null, .null, .int 0]))])) C rfl inlX4 tyX4_ok q_1_13 q_1_14 q_1_15 (fun j hj => by rcases (show j = 0 ∨ j = 1 ∨ j = 2 ∨ j = 3 ∨ j = 4 ∨ j = 5 ∨ j = 6 by omega) with rfl | rfl | rfl | rfl | rfl | rfl | rfl <;> rfl) (Nat.le_of_ble_eq_true rfl) (Nat.le_of_ble_eq_true rfl) dX8_init_83 (fun _ => rfl) (fun q32 => ?_)
  refine a_dup (pc := 86) C dX8_init_86 rfl ?_
  refine a_init (pc := 87) (W0 := (h0, .inr (8, [.ref (q4 0), .ref q7, .int 0, .int 0, .ref (q11 0), .ref (q17 0), .ref (q23 0), .ref (q29 0)])) :: (q7, .inl (X.ac 4, 5, .inr (.inr (.inr (.inr (fun _ => none)))))) :: ((((stW X q4 ++ pnW X q11) ++ txW X q17) ++ rdW X q23) ++ wrW X q29)) C (fun sz => iX4_init X q32 sz) q_2_10 q_2_11 q_1_15 q_2_12 rfl hdX4_init ⟨Nat.le_of_ble_eq_true rfl, Nat.le_of_ble_eq_true rfl, rfl, rfl, Nat.le_of_ble_eq_true rfl, Nat.le_of_ble_eq_true rfl⟩ (Nat.le_of_ble_eq_true rfl) dX8_init_87 rfl (fun w33 hw34 => ?_)
  obtain ⟨q35, e36, p37⟩ := hw34
  subst e36
  refine a_perm (List.Perm.append_left _ p37) ?_
  refine a_eq (ws' := (h0, .inr (8, [.ref (q4 0), .ref q7, .int 0, .int 0, .ref (q11 0), .ref (q17 0), .ref (q23 0), .ref (q29 0)])) :: (q7, .inl (X.ac 4, 5, .inr (.inr (.inr (.inr (fun _ => none)))))) :: (((((stW X q4 ++ pnW X q11) ++ txW X q17) ++ rdW X q23) ++ wrW X q29) ++ stW X q35)) rfl ?_
  refine a_aastoreM (pc := 90) (q0 := 1) (t0 := 4) (ci := 4) (n := 5) ((h0, .inr (8, [.ref (q4 0), .ref q7, .int 0, .int 0, .ref (q11 0), .ref (q17 0), .ref (q23 0), .ref (q29 0)])) :: (q7, .inl (X.ac 4, 5, .inr (.inr (.inr (.inr (va_up (fun _ => none) 0 (some (q35 0)))))))) :: (((((stW X q4 ++ pnW X q11) ++ txW X q17) ++ rdW X q23) ++ wrW X q29) ++ stW X q35)) C rfl rfl (List.mem_cons_of_mem _ (List.mem_cons_of_mem _ (List.mem_append_right _ List.mem_cons_self))) rfl (show vp_in 0 5 from vp_in_nI (n := 0) (by decide) (by decide)) dX8_init_90 rfl ?_
  refine a_iinc (pc := 91) (v := 1) C dX8_init_91 rfl (by decide) (Nat.le_of_ble_eq_true rfl) rfl ?_
  show GA X K _ _ _ _ _ _ _ [some (.ref h0), some (.int 1)] _
  refine a_goto (pc := 94) (tgt := 69) C dX8_init_94 rfl ?_
  refine a_iload_n (pc := 69) (i := 1) C dX8_init_69 rfl rfl ?_
  refine a_aload_n (pc := 70) (i := 0) C dX8_init_70 rfl rfl ?_
  refine a_getr (pc := 71) (q0 := 0) (j := 1) (ci := 8) (N := 8) (T := TX8) (Cn := RX8) C rfl rfl inlX8 (Nat.le_of_ble_eq_true rfl) q_1_17 rfl dX8_init_71 ?_
  refine a_alen (pc := 74) (q0 := 1) (t0 := 4) (v := 5) C rfl rfl rfl dX8_init_74 ?_
  refine a_ge_f (pc := 75) (tgt := 97) C dX8_init_75 rfl (by decide) ?_
  refine a_aload_n (pc := 78) (i := 0) C dX8_init_78 rfl rfl ?_
  refine a_getr (pc := 79) (q0 := 0) (j := 1) (ci := 8) (N := 8) (T := TX8) (Cn := RX8) C rfl rfl inlX8 (Nat.le_of_ble_eq_true rfl) q_1_17 rfl dX8_init_79 ?_
  refine a_iload_n (pc := 82) (i := 1) C dX8_init_82 rfl rfl ?_
  refine a_new (pc := 83) (ci := 4) (N := 7) (T := TX4) (Cn := RX4) (fs := [.int 0, .null, .null, .null, .null, .null, .int 0]) (fun q38 => (h0, .inr (8, [.ref (q4 0), .ref q7, .int 0, .int 0, .ref (q11 0), .ref (q17 0), .ref (q23 0), .ref (q29 0)])) :: (q7, .inl (X.ac 4, 5, .inr (.inr (.inr (.inr (va_up (fun _ => none) 0 (some (q35 0)))))))) :: (((((stW X q4 ++ pnW X q11) ++ txW X q17) ++ rdW X q23) ++ wrW X q29) ++ stW X q35 ++ [(q38, .inr (4, [.int 0, .null, .null, .null, .null, .null, .int 0]))])) C rfl inlX4 tyX4_ok q_1_13 q_1_14 q_1_15 (fun j hj => by rcases (show j = 0 ∨ j = 1 ∨ j = 2 ∨ j = 3 ∨ j = 4 ∨ j = 5 ∨ j = 6 by omega) with rfl | rfl | rfl | rfl | rfl | rfl | rfl <;> rfl) (Nat.le_of_ble_eq_true rfl) (Nat.le_of_ble_eq_true rfl) dX8_init_83 (fun _ => rfl) (fun q38 => ?_)
  refine a_dup (pc := 86) C dX8_init_86 rfl ?_
  refine a_init (pc := 87) (W0 := (h0, .inr (8, [.ref (q4 0), .ref q7, .int 0, .int 0, .ref (q11 0), .ref (q17 0), .ref (q23 0), .ref (q29 0)])) :: (q7, .inl (X.ac 4, 5, .inr (.inr (.inr (.inr (va_up (fun _ => none) 0 (some (q35 0)))))))) :: (((((stW X q4 ++ pnW X q11) ++ txW X q17) ++ rdW X q23) ++ wrW X q29) ++ stW X q35)) C (fun sz => iX4_init X q38 sz) q_2_10 q_2_11 q_1_15 q_2_12 rfl hdX4_init ⟨Nat.le_of_ble_eq_true rfl, Nat.le_of_ble_eq_true rfl, rfl, rfl, Nat.le_of_ble_eq_true rfl, Nat.le_of_ble_eq_true rfl⟩ (Nat.le_of_ble_eq_true rfl) dX8_init_87 rfl (fun w39 hw40 => ?_)
  obtain ⟨q41, e42, p43⟩ := hw40
  subst e42
  refine a_perm (List.Perm.append_left _ p43) ?_
  refine a_eq (ws' := (h0, .inr (8, [.ref (q4 0), .ref q7, .int 0, .int 0, .ref (q11 0), .ref (q17 0), .ref (q23 0), .ref (q29 0)])) :: (q7, .inl (X.ac 4, 5, .inr (.inr (.inr (.inr (va_up (fun _ => none) 0 (some (q35 0)))))))) :: ((((((stW X q4 ++ pnW X q11) ++ txW X q17) ++ rdW X q23) ++ wrW X q29) ++ stW X q35) ++ stW X q41)) rfl ?_
  refine a_aastoreM (pc := 90) (q0 := 1) (t0 := 4) (ci := 4) (n := 5) ((h0, .inr (8, [.ref (q4 0), .ref q7, .int 0, .int 0, .ref (q11 0), .ref (q17 0), .ref (q23 0), .ref (q29 0)])) :: (q7, .inl (X.ac 4, 5, .inr (.inr (.inr (.inr (va_up (va_up (fun _ => none) 0 (some (q35 0))) 1 (some (q41 0)))))))) :: ((((((stW X q4 ++ pnW X q11) ++ txW X q17) ++ rdW X q23) ++ wrW X q29) ++ stW X q35) ++ stW X q41)) C rfl rfl (List.mem_cons_of_mem _ (List.mem_cons_of_mem _ (List.mem_append_right _ List.mem_cons_self))) rfl (show vp_in 1 5 from vp_in_nI (n := 1) (by decide) (by decide)) dX8_init_90 rfl ?_
  refine a_iinc (pc := 91) (v := 2) C dX8_init_91 rfl (by decide) (Nat.le_of_ble_eq_true rfl) rfl ?_
  show GA X K _ _ _ _ _ _ _ [some (.ref h0), some (.int 2)] _
  refine a_goto (pc := 94) (tgt := 69) C dX8_init_94 rfl ?_
  refine a_iload_n (pc := 69) (i := 1) C dX8_init_69 rfl rfl ?_
  refine a_aload_n (pc := 70) (i := 0) C dX8_init_70 rfl rfl ?_
  refine a_getr (pc := 71) (q0 := 0) (j := 1) (ci := 8) (N := 8) (T := TX8) (Cn := RX8) C rfl rfl inlX8 (Nat.le_of_ble_eq_true rfl) q_1_17 rfl dX8_init_71 ?_
  refine a_alen (pc := 74) (q0 := 1) (t0 := 4) (v := 5) C rfl rfl rfl dX8_init_74 ?_
  refine a_ge_f (pc := 75) (tgt := 97) C dX8_init_75 rfl (by decide) ?_
  refine a_aload_n (pc := 78) (i := 0) C dX8_init_78 rfl rfl ?_
  refine a_getr (pc := 79) (q0 := 0) (j := 1) (ci := 8) (N := 8) (T := TX8) (Cn := RX8) C rfl rfl inlX8 (Nat.le_of_ble_eq_true rfl) q_1_17 rfl dX8_init_79 ?_
  refine a_iload_n (pc := 82) (i := 1) C dX8_init_82 rfl rfl ?_
  refine a_new (pc := 83) (ci := 4) (N := 7) (T := TX4) (Cn := RX4) (fs := [.int 0, .null, .null, .null, .null, .null, .int 0]) (fun q44 => (h0, .inr (8, [.ref (q4 0), .ref q7, .int 0, .int 0, .ref (q11 0), .ref (q17 0), .ref (q23 0), .ref (q29 0)])) :: (q7, .inl (X.ac 4, 5, .inr (.inr (.inr (.inr (va_up (va_up (fun _ => none) 0 (some (q35 0))) 1 (some (q41 0)))))))) :: ((((((stW X q4 ++ pnW X q11) ++ txW X q17) ++ rdW X q23) ++ wrW X q29) ++ stW X q35) ++ stW X q41 ++ [(q44, .inr (4, [.int 0, .null, .null, .null, .null, .null, .int 0]))])) C rfl inlX4 tyX4_ok q_1_13 q_1_14 q_1_15 (fun j hj => by rcases (show j = 0 ∨ j = 1 ∨ j = 2 ∨ j = 3 ∨ j = 4 ∨ j = 5 ∨ j = 6 by omega) with rfl | rfl | rfl | rfl | rfl | rfl | rfl <;> rfl) (Nat.le_of_ble_eq_true rfl) (Nat.le_of_ble_eq_true rfl) dX8_init_83 (fun _ => rfl) (fun q44 => ?_)
  refine a_dup (pc := 86) C dX8_init_86 rfl ?_
  refine a_init (pc := 87) (W0 := (h0, .inr (8, [.ref (q4 0), .ref q7, .int 0, .int 0, .ref (q11 0), .ref (q17 0), .ref (q23 0), .ref (q29 0)])) :: (q7, .inl (X.ac 4, 5, .inr (.inr (.inr (.inr (va_up (va_up (fun _ => none) 0 (some (q35 0))) 1 (some (q41 0)))))))) :: ((((((stW X q4 ++ pnW X q11) ++ txW X q17) ++ rdW X q23) ++ wrW X q29) ++ stW X q35) ++ stW X q41)) C (fun sz => iX4_init X q44 sz) q_2_10 q_2_11 q_1_15 q_2_12 rfl hdX4_init ⟨Nat.le_of_ble_eq_true rfl, Nat.le_of_ble_eq_true rfl, rfl, rfl, Nat.le_of_ble_eq_true rfl, Nat.le_of_ble_eq_true rfl⟩ (Nat.le_of_ble_eq_true rfl) dX8_init_87 rfl (fun w45 hw46 => ?_)
  obtain ⟨q47, e48, p49⟩ := hw46
  subst e48
  refine a_perm (List.Perm.append_left _ p49) ?_
  refine a_eq (ws' := (h0, .inr (8, [.ref (q4 0), .ref q7, .int 0, .int 0, .ref (q11 0), .ref (q17 0), .ref (q23 0), .ref (q29 0)])) :: (q7, .inl (X.ac 4, 5, .inr (.inr (.inr (.inr (va_up (va_up (fun _ => none) 0 (some (q35 0))) 1 (some (q41 0)))))))) :: (((((((stW X q4 ++ pnW X q11) ++ txW X q17) ++ rdW X q23) ++ wrW X q29) ++ stW X q35) ++ stW X q41) ++ stW X q47)) rfl ?_
  refine a_aastoreM (pc := 90) (q0 := 1) (t0 := 4) (ci := 4) (n := 5) ((h0, .inr (8, [.ref (q4 0), .ref q7, .int 0, .int 0, .ref (q11 0), .ref (q17 0), .ref (q23 0), .ref (q29 0)])) :: (q7, .inl (X.ac 4, 5, .inr (.inr (.inr (.inr (va_up (va_up (va_up (fun _ => none) 0 (some (q35 0))) 1 (some (q41 0))) 2 (some (q47 0)))))))) :: (((((((stW X q4 ++ pnW X q11) ++ txW X q17) ++ rdW X q23) ++ wrW X q29) ++ stW X q35) ++ stW X q41) ++ stW X q47)) C rfl rfl (List.mem_cons_of_mem _ (List.mem_cons_of_mem _ (List.mem_append_right _ List.mem_cons_self))) rfl (show vp_in 2 5 from vp_in_nI (n := 2) (by decide) (by decide)) dX8_init_90 rfl ?_
  refine a_iinc (pc := 91) (v := 3) C dX8_init_91 rfl (by decide) (Nat.le_of_ble_eq_true rfl) rfl ?_
  show GA X K _ _ _ _ _ _ _ [some (.ref h0), some (.int 3)] _
  refine a_goto (pc := 94) (tgt := 69) C dX8_init_94 rfl ?_
  refine a_iload_n (pc := 69) (i := 1) C dX8_init_69 rfl rfl ?_
  refine a_aload_n (pc := 70) (i := 0) C dX8_init_70 rfl rfl ?_
  refine a_getr (pc := 71) (q0 := 0) (j := 1) (ci := 8) (N := 8) (T := TX8) (Cn := RX8) C rfl rfl inlX8 (Nat.le_of_ble_eq_true rfl) q_1_17 rfl dX8_init_71 ?_
  refine a_alen (pc := 74) (q0 := 1) (t0 := 4) (v := 5) C rfl rfl rfl dX8_init_74 ?_
  refine a_ge_f (pc := 75) (tgt := 97) C dX8_init_75 rfl (by decide) ?_
  refine a_aload_n (pc := 78) (i := 0) C dX8_init_78 rfl rfl ?_
  refine a_getr (pc := 79) (q0 := 0) (j := 1) (ci := 8) (N := 8) (T := TX8) (Cn := RX8) C rfl rfl inlX8 (Nat.le_of_ble_eq_true rfl) q_1_17 rfl dX8_init_79 ?_
  refine a_iload_n (pc := 82) (i := 1) C dX8_init_82 rfl rfl ?_
  refine a_new (pc := 83) (ci := 4) (N := 7) (T := TX4) (Cn := RX4) (fs := [.int 0, .null, .null, .null, .null, .null, .int 0]) (fun q50 => (h0, .inr (8, [.ref (q4 0), .ref q7, .int 0, .int 0, .ref (q11 0), .ref (q17 0), .ref (q23 0), .ref (q29 0)])) :: (q7, .inl (X.ac 4, 5, .inr (.inr (.inr (.inr (va_up (va_up (va_up (fun _ => none) 0 (some (q35 0))) 1 (some (q41 0))) 2 (some (q47 0)))))))) :: (((((((stW X q4 ++ pnW X q11) ++ txW X q17) ++ rdW X q23) ++ wrW X q29) ++ stW X q35) ++ stW X q41) ++ stW X q47 ++ [(q50, .inr (4, [.int 0, .null, .null, .null, .null, .null, .int 0]))])) C rfl inlX4 tyX4_ok q_1_13 q_1_14 q_1_15 (fun j hj => by rcases (show j = 0 ∨ j = 1 ∨ j = 2 ∨ j = 3 ∨ j = 4 ∨ j = 5 ∨ j = 6 by omega) with rfl | rfl | rfl | rfl | rfl | rfl | rfl <;> rfl) (Nat.le_of_ble_eq_true rfl) (Nat.le_of_ble_eq_true rfl) dX8_init_83 (fun _ => rfl) (fun q50 => ?_)
  refine a_dup (pc := 86) C dX8_init_86 rfl ?_
  refine a_init (pc := 87) (W0 := (h0, .inr (8, [.ref (q4 0), .ref q7, .int 0, .int 0, .ref (q11 0), .ref (q17 0), .ref (q23 0), .ref (q29 0)])) :: (q7, .inl (X.ac 4, 5, .inr (.inr (.inr (.inr (va_up (va_up (va_up (fun _ => none) 0 (some (q35 0))) 1 (some (q41 0))) 2 (some (q47 0)))))))) :: (((((((stW X q4 ++ pnW X q11) ++ txW X q17) ++ rdW X q23) ++ wrW X q29) ++ stW X q35) ++ stW X q41) ++ stW X q47)) C (fun sz => iX4_init X q50 sz) q_2_10 q_2_11 q_1_15 q_2_12 rfl hdX4_init ⟨Nat.le_of_ble_eq_true rfl, Nat.le_of_ble_eq_true rfl, rfl, rfl, Nat.le_of_ble_eq_true rfl, Nat.le_of_ble_eq_true rfl⟩ (Nat.le_of_ble_eq_true rfl) dX8_init_87 rfl (fun w51 hw52 => ?_)
  obtain ⟨q53, e54, p55⟩ := hw52
  subst e54
  refine a_perm (List.Perm.append_left _ p55) ?_
  refine a_eq (ws' := (h0, .inr (8, [.ref (q4 0), .ref q7, .int 0, .int 0, .ref (q11 0), .ref (q17 0), .ref (q23 0), .ref (q29 0)])) :: (q7, .inl (X.ac 4, 5, .inr (.inr (.inr (.inr (va_up (va_up (va_up (fun _ => none) 0 (some (q35 0))) 1 (some (q41 0))) 2 (some (q47 0)))))))) :: ((((((((stW X q4 ++ pnW X q11) ++ txW X q17) ++ rdW X q23) ++ wrW X q29) ++ stW X q35) ++ stW X q41) ++ stW X q47) ++ stW X q53)) rfl ?_
  refine a_aastoreM (pc := 90) (q0 := 1) (t0 := 4) (ci := 4) (n := 5) ((h0, .inr (8, [.ref (q4 0), .ref q7, .int 0, .int 0, .ref (q11 0), .ref (q17 0), .ref (q23 0), .ref (q29 0)])) :: (q7, .inl (X.ac 4, 5, .inr (.inr (.inr (.inr (va_up (va_up (va_up (va_up (fun _ => none) 0 (some (q35 0))) 1 (some (q41 0))) 2 (some (q47 0))) 3 (some (q53 0)))))))) :: ((((((((stW X q4 ++ pnW X q11) ++ txW X q17) ++ rdW X q23) ++ wrW X q29) ++ stW X q35) ++ stW X q41) ++ stW X q47) ++ stW X q53)) C rfl rfl (List.mem_cons_of_mem _ (List.mem_cons_of_mem _ (List.mem_append_right _ List.mem_cons_self))) rfl (show vp_in 3 5 from vp_in_nI (n := 3) (by decide) (by decide)) dX8_init_90 rfl ?_
  refine a_iinc (pc := 91) (v := 4) C dX8_init_91 rfl (by decide) (Nat.le_of_ble_eq_true rfl) rfl ?_
  show GA X K _ _ _ _ _ _ _ [some (.ref h0), some (.int 4)] _
  refine a_goto (pc := 94) (tgt := 69) C dX8_init_94 rfl ?_
  refine a_iload_n (pc := 69) (i := 1) C dX8_init_69 rfl rfl ?_
  refine a_aload_n (pc := 70) (i := 0) C dX8_init_70 rfl rfl ?_
  refine a_getr (pc := 71) (q0 := 0) (j := 1) (ci := 8) (N := 8) (T := TX8) (Cn := RX8) C rfl rfl inlX8 (Nat.le_of_ble_eq_true rfl) q_1_17 rfl dX8_init_71 ?_
  refine a_alen (pc := 74) (q0 := 1) (t0 := 4) (v := 5) C rfl rfl rfl dX8_init_74 ?_
  refine a_ge_f (pc := 75) (tgt := 97) C dX8_init_75 rfl (by decide) ?_
  refine a_aload_n (pc := 78) (i := 0) C dX8_init_78 rfl rfl ?_
  refine a_getr (pc := 79) (q0 := 0) (j := 1) (ci := 8) (N := 8) (T := TX8) (Cn := RX8) C rfl rfl inlX8 (Nat.le_of_ble_eq_true rfl) q_1_17 rfl dX8_init_79 ?_
  refine a_iload_n (pc := 82) (i := 1) C dX8_init_82 rfl rfl ?_
  refine a_new (pc := 83) (ci := 4) (N := 7) (T := TX4) (Cn := RX4) (fs := [.int 0, .null, .null, .null, .null, .null, .int 0]) (fun q56 => (h0, .inr (8, [.ref (q4 0), .ref q7, .int 0, .int 0, .ref (q11 0), .ref (q17 0), .ref (q23 0), .ref (q29 0)])) :: (q7, .inl (X.ac 4, 5, .inr (.inr (.inr (.inr (va_up (va_up (va_up (va_up (fun _ => none) 0 (some (q35 0))) 1 (some (q41 0))) 2 (some (q47 0))) 3 (some (q53 0)))))))) :: ((((((((stW X q4 ++ pnW X q11) ++ txW X q17) ++ rdW X q23) ++ wrW X q29) ++ stW X q35) ++ stW X q41) ++ stW X q47) ++ stW X q53 ++ [(q56, .inr (4, [.int 0, .null, .null, .null, .null, .null, .int 0]))])) C rfl inlX4 tyX4_ok q_1_13 q_1_14 q_1_15 (fun j hj => by rcases (show j = 0 ∨ j = 1 ∨ j = 2 ∨ j = 3 ∨ j = 4 ∨ j = 5 ∨ j = 6 by omega) with rfl | rfl | rfl | rfl | rfl | rfl | rfl <;> rfl) (Nat.le_of_ble_eq_true rfl) (Nat.le_of_ble_eq_true rfl) dX8_init_83 (fun _ => rfl) (fun q56 => ?_)
  refine a_dup (pc := 86) C dX8_init_86 rfl ?_
  refine a_init (pc := 87) (W0 := (h0, .inr (8, [.ref (q4 0), .ref q7, .int 0, .int 0, .ref (q11 0), .ref (q17 0), .ref (q23 0), .ref (q29 0)])) :: (q7, .inl (X.ac 4, 5, .inr (.inr (.inr (.inr (va_up (va_up (va_up (va_up (fun _ => none) 0 (some (q35 0))) 1 (some (q41 0))) 2 (some (q47 0))) 3 (some (q53 0)))))))) :: ((((((((stW X q4 ++ pnW X q11) ++ txW X q17) ++ rdW X q23) ++ wrW X q29) ++ stW X q35) ++ stW X q41) ++ stW X q47) ++ stW X q53)) C (fun sz => iX4_init X q56 sz) q_2_10 q_2_11 q_1_15 q_2_12 rfl hdX4_init ⟨Nat.le_of_ble_eq_true rfl, Nat.le_of_ble_eq_true rfl, rfl, rfl, Nat.le_of_ble_eq_true rfl, Nat.le_of_ble_eq_true rfl⟩ (Nat.le_of_ble_eq_true rfl) dX8_init_87 rfl (fun w57 hw58 => ?_)
  obtain ⟨q59, e60, p61⟩ := hw58
  subst e60
  refine a_perm (List.Perm.append_left _ p61) ?_
  refine a_eq (ws' := (h0, .inr (8, [.ref (q4 0), .ref q7, .int 0, .int 0, .ref (q11 0), .ref (q17 0), .ref (q23 0), .ref (q29 0)])) :: (q7, .inl (X.ac 4, 5, .inr (.inr (.inr (.inr (va_up (va_up (va_up (va_up (fun _ => none) 0 (some (q35 0))) 1 (some (q41 0))) 2 (some (q47 0))) 3 (some (q53 0)))))))) :: (((((((((stW X q4 ++ pnW X q11) ++ txW X q17) ++ rdW X q23) ++ wrW X q29) ++ stW X q35) ++ stW X q41) ++ stW X q47) ++ stW X q53) ++ stW X q59)) rfl ?_
  refine a_aastoreM (pc := 90) (q0 := 1) (t0 := 4) (ci := 4) (n := 5) ((h0, .inr (8, [.ref (q4 0), .ref q7, .int 0, .int 0, .ref (q11 0), .ref (q17 0), .ref (q23 0), .ref (q29 0)])) :: (q7, .inl (X.ac 4, 5, .inr (.inr (.inr (.inr (va_up (va_up (va_up (va_up (va_up (fun _ => none) 0 (some (q35 0))) 1 (some (q41 0))) 2 (some (q47 0))) 3 (some (q53 0))) 4 (some (q59 0)))))))) :: (((((((((stW X q4 ++ pnW X q11) ++ txW X q17) ++ rdW X q23) ++ wrW X q29) ++ stW X q35) ++ stW X q41) ++ stW X q47) ++ stW X q53) ++ stW X q59)) C rfl rfl (List.mem_cons_of_mem _ (List.mem_cons_of_mem _ (List.mem_append_right _ List.mem_cons_self))) rfl (show vp_in 4 5 from vp_in_nI (n := 4) (by decide) (by decide)) dX8_init_90 rfl ?_
  refine a_iinc (pc := 91) (v := 5) C dX8_init_91 rfl (by decide) (Nat.le_of_ble_eq_true rfl) rfl ?_
  show GA X K _ _ _ _ _ _ _ [some (.ref h0), some (.int 5)] _
  refine a_goto (pc := 94) (tgt := 69) C dX8_init_94 rfl ?_
  refine a_iload_n (pc := 69) (i := 1) C dX8_init_69 rfl rfl ?_
  refine a_aload_n (pc := 70) (i := 0) C dX8_init_70 rfl rfl ?_
  refine a_getr (pc := 71) (q0 := 0) (j := 1) (ci := 8) (N := 8) (T := TX8) (Cn := RX8) C rfl rfl inlX8 (Nat.le_of_ble_eq_true rfl) q_1_17 rfl dX8_init_71 ?_
  refine a_alen (pc := 74) (q0 := 1) (t0 := 4) (v := 5) C rfl rfl rfl dX8_init_74 ?_
  refine a_ge_t (pc := 75) (tgt := 97) C dX8_init_75 rfl (by decide) ?_
  exact a_vret (pc := 97) C hr hz dX8_init_97 (Nat.le_of_ble_eq_true rfl) (Nat.le_of_ble_eq_true rfl) ⟨fun k => if k < 1 then h0 else if k < 71 then q4 (k - 1) else if k < 72 then q7 else if k < 142 then q35 (k - 72) else if k < 212 then q41 (k - 142) else if k < 282 then q47 (k - 212) else if k < 352 then q53 (k - 282) else if k < 422 then q59 (k - 352) else if k < 438 then q11 (k - 422) else if k < 440 then q17 (k - 438) else if k < 459 then q23 (k - 440) else if k < 462 then q29 (k - 459) else 0, rfl, List.Perm.refl _⟩

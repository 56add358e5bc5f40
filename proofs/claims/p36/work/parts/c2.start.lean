/-! THE START: what the tables and the premises give; the store at first; the law from its entry -/
set_option maxRecDepth 100000 in
theorem st_XK {s : State} {args : Array Value} (hts : ∀ w ∈ lw_tbl, w.before args s = true) (hgs : ∀ w ∈ flatC (Jvm.Cond.and given_1 narrow_1), w.before args s = true) : XK s := by
  refine ⟨?_, ?_, ?_, ?_, ?_, ?_⟩
  · exact List.forall_mem_cons.mpr ⟨va_Nw.of rfl (hts _ (tb_2 _ (List.mem_of_getElem? (i := 59) rfl))), List.forall_mem_cons.mpr ⟨va_Nw.of rfl (hts _ (tb_3 _ (List.mem_of_getElem? (i := 23) rfl))), List.forall_mem_cons.mpr ⟨va_Nw.of rfl (hts _ (tb_2 _ (List.mem_of_getElem? (i := 214) rfl))), List.forall_mem_cons.mpr ⟨va_Nw.of rfl (hts _ (tb_2 _ (List.mem_of_getElem? (i := 209) rfl))), List.forall_mem_cons.mpr ⟨va_Nw.of rfl (hts _ (tb_2 _ (List.mem_of_getElem? (i := 82) rfl))), List.forall_mem_cons.mpr ⟨va_Nw.of rfl (hts _ (tb_2 _ (List.mem_of_getElem? (i := 232) rfl))), List.forall_mem_cons.mpr ⟨va_Nw.of rfl (hts _ (tb_5 _ (List.mem_of_getElem? (i := 29) rfl))), List.forall_mem_cons.mpr ⟨va_Nw.of rfl (hts _ (tb_2 _ (List.mem_of_getElem? (i := 91) rfl))), List.forall_mem_cons.mpr ⟨va_Nw.of rfl (hts _ (tb_2 _ (List.mem_of_getElem? (i := 168) rfl))), List.forall_mem_cons.mpr ⟨va_Nw.of rfl (hts _ (tb_4 _ (List.mem_of_getElem? (i := 118) rfl))), List.forall_mem_cons.mpr ⟨va_Nw.of rfl (hts _ (tb_4 _ (List.mem_of_getElem? (i := 153) rfl))), List.forall_mem_cons.mpr ⟨va_Nw.of rfl (hts _ (tb_4 _ (List.mem_of_getElem? (i := 158) rfl))), List.forall_mem_cons.mpr ⟨va_Nw.of rfl (hts _ (tb_4 _ (List.mem_of_getElem? (i := 85) rfl))), List.forall_mem_cons.mpr ⟨va_Nw.of rfl (hts _ (tb_5 _ (List.mem_of_getElem? (i := 179) rfl))), List.forall_mem_cons.mpr ⟨va_Nw.of rfl (hts _ (tb_4 _ (List.mem_of_getElem? (i := 74) rfl))), List.forall_mem_cons.mpr ⟨va_Nw.of rfl (hts _ (tb_3 _ (List.mem_of_getElem? (i := 65) rfl))), List.forall_mem_cons.mpr ⟨va_Nw.of rfl (hts _ (tb_5 _ (List.mem_of_getElem? (i := 202) rfl))), List.forall_mem_cons.mpr ⟨va_Nw.of rfl (hts _ (tb_2 _ (List.mem_of_getElem? (i := 199) rfl))), fun _ h => absurd h List.not_mem_nil⟩⟩⟩⟩⟩⟩⟩⟩⟩⟩⟩⟩⟩⟩⟩⟩⟩⟩
  · exact List.forall_mem_cons.mpr ⟨va_Nw.of rfl (hts _ (tb_3 _ (List.mem_of_getElem? (i := 132) rfl))), List.forall_mem_cons.mpr ⟨va_Nw.of rfl (hts _ (tb_3 _ (List.mem_of_getElem? (i := 203) rfl))), List.forall_mem_cons.mpr ⟨va_Nw.of rfl (hts _ (tb_4 _ (List.mem_of_getElem? (i := 45) rfl))), fun _ h => absurd h List.not_mem_nil⟩⟩⟩
  · exact List.forall_mem_cons.mpr ⟨va_Nc.of (hgs _ (List.mem_of_getElem? (i := 17) (by rfl))), List.forall_mem_cons.mpr ⟨va_Nc.of (hgs _ (List.mem_of_getElem? (i := 29) (by rfl))), List.forall_mem_cons.mpr ⟨va_Nc.of (hgs _ (List.mem_of_getElem? (i := 40) (by rfl))), List.forall_mem_cons.mpr ⟨va_Nc.of (hgs _ (List.mem_of_getElem? (i := 28) (by rfl))), List.forall_mem_cons.mpr ⟨va_Nc.of (hgs _ (List.mem_of_getElem? (i := 41) (by rfl))), List.forall_mem_cons.mpr ⟨va_Nc.of (hgs _ (List.mem_of_getElem? (i := 16) (by rfl))), fun _ h => absurd h List.not_mem_nil⟩⟩⟩⟩⟩⟩
  · exact List.forall_mem_cons.mpr ⟨(by
      obtain ⟨a, c9, cell, k9, e1, -⟩ := Cond.exactly_spec (hgs _ (List.mem_of_getElem? (i := 156) (by rfl)))
      exact ⟨a, vk_R.of (hts _ (tb_4 _ (List.mem_of_getElem? (i := 52) rfl))) e1⟩), List.forall_mem_cons.mpr ⟨(by
      obtain ⟨a, c9, cell, k9, e1, -⟩ := Cond.exactly_spec (hgs _ (List.mem_of_getElem? (i := 210) (by rfl)))
      exact ⟨a, vk_R.of (hts _ (tb_5 _ (List.mem_of_getElem? (i := 19) rfl))) e1⟩), List.forall_mem_cons.mpr ⟨(by
      obtain ⟨a, c9, cell, k9, e1, -⟩ := Cond.exactly_spec (hgs _ (List.mem_of_getElem? (i := 283) (by rfl)))
      exact ⟨a, vk_R.of (hts _ (tb_5 _ (List.mem_of_getElem? (i := 46) rfl))) e1⟩), List.forall_mem_cons.mpr ⟨(by
      obtain ⟨a, c9, cell, k9, e1, -⟩ := Cond.exactly_spec (hgs _ (List.mem_of_getElem? (i := 335) (by rfl)))
      exact ⟨a, vk_R.of (hts _ (tb_5 _ (List.mem_of_getElem? (i := 59) rfl))) e1⟩), List.forall_mem_cons.mpr ⟨(by
      obtain ⟨a, c9, cell, k9, e1, -⟩ := Cond.exactly_spec (hgs _ (List.mem_of_getElem? (i := 375) (by rfl)))
      exact ⟨a, vk_R.of (hts _ (tb_5 _ (List.mem_of_getElem? (i := 90) rfl))) e1⟩), List.forall_mem_cons.mpr ⟨(by
      obtain ⟨a, c9, cell, k9, e1, -⟩ := Cond.exactly_spec (hgs _ (List.mem_of_getElem? (i := 406) (by rfl)))
      exact ⟨a, vk_R.of (hts _ (tb_5 _ (List.mem_of_getElem? (i := 121) rfl))) e1⟩), List.forall_mem_cons.mpr ⟨(by
      obtain ⟨a, c9, cell, k9, e1, -⟩ := Cond.exactly_spec (hgs _ (List.mem_of_getElem? (i := 486) (by rfl)))
      exact ⟨a, vk_R.of (hts _ (tb_5 _ (List.mem_of_getElem? (i := 151) rfl))) e1⟩), List.forall_mem_cons.mpr ⟨(by
      obtain ⟨a, c9, cell, k9, e1, -⟩ := Cond.exactly_spec (hgs _ (List.mem_of_getElem? (i := 586) (by rfl)))
      exact ⟨a, vk_R.of (hts _ (tb_5 _ (List.mem_of_getElem? (i := 174) rfl))) e1⟩), List.forall_mem_cons.mpr ⟨(by
      obtain ⟨a, c9, cell, k9, e1, -⟩ := Cond.exactly_spec (hgs _ (List.mem_of_getElem? (i := 631) (by rfl)))
      exact ⟨a, vk_R.of (hts _ (tb_5 _ (List.mem_of_getElem? (i := 197) rfl))) e1⟩), List.forall_mem_cons.mpr ⟨(by
      obtain ⟨a, c9, cell, k9, e1, -⟩ := Cond.exactly_spec (hgs _ (List.mem_of_getElem? (i := 676) (by rfl)))
      exact ⟨a, vk_R.of (hts _ (tb_5 _ (List.mem_of_getElem? (i := 210) rfl))) e1⟩), List.forall_mem_cons.mpr ⟨(by
      obtain ⟨a, c9, cell, k9, e1, -⟩ := Cond.exactly_spec (hgs _ (List.mem_of_getElem? (i := 715) (by rfl)))
      exact ⟨a, vk_R.of (hts _ (tb_6 _ (List.mem_of_getElem? (i := 8) rfl))) e1⟩), List.forall_mem_cons.mpr ⟨(by
      obtain ⟨a, c9, cell, k9, e1, -⟩ := Cond.exactly_spec (hgs _ (List.mem_of_getElem? (i := 779) (by rfl)))
      exact ⟨a, vk_R.of (hts _ (tb_6 _ (List.mem_of_getElem? (i := 17) rfl))) e1⟩), List.forall_mem_cons.mpr ⟨(by
      obtain ⟨a, c9, cell, k9, e1, -⟩ := Cond.exactly_spec (hgs _ (List.mem_of_getElem? (i := 70) (by rfl)))
      exact ⟨a, vk_R.of (hts _ (tb_3 _ (List.mem_of_getElem? (i := 171) rfl))) e1⟩), List.forall_mem_cons.mpr ⟨(by
      obtain ⟨a, c9, cell, k9, e1, -⟩ := Cond.exactly_spec (hgs _ (List.mem_of_getElem? (i := 127) (by rfl)))
      exact ⟨a, vk_R.of (hts _ (tb_4 _ (List.mem_of_getElem? (i := 12) rfl))) e1⟩), List.forall_mem_cons.mpr ⟨(by
      obtain ⟨a, c9, cell, k9, e1, -⟩ := Cond.exactly_spec (hgs _ (List.mem_of_getElem? (i := 549) (by rfl)))
      exact ⟨a, vk_R.of (hts _ (tb_5 _ (List.mem_of_getElem? (i := 162) rfl))) e1⟩), List.forall_mem_cons.mpr ⟨(by
      obtain ⟨a, c9, cell, k9, e1, -⟩ := Cond.exactly_spec (hgs _ (List.mem_of_getElem? (i := 95) (by rfl)))
      exact ⟨a, vk_R.of (hts _ (tb_3 _ (List.mem_of_getElem? (i := 210) rfl))) e1⟩), List.forall_mem_cons.mpr ⟨(by
      obtain ⟨a, c9, cell, k9, e1, -⟩ := Cond.exactly_spec (hgs _ (List.mem_of_getElem? (i := 181) (by rfl)))
      exact ⟨a, vk_R.of (hts _ (tb_4 _ (List.mem_of_getElem? (i := 231) rfl))) e1⟩), List.forall_mem_cons.mpr ⟨(by
      obtain ⟨a, c9, cell, k9, e1, -⟩ := Cond.exactly_spec (hgs _ (List.mem_of_getElem? (i := 251) (by rfl)))
      exact ⟨a, vk_R.of (hts _ (tb_5 _ (List.mem_of_getElem? (i := 24) rfl))) e1⟩), fun _ h => absurd h List.not_mem_nil⟩⟩⟩⟩⟩⟩⟩⟩⟩⟩⟩⟩⟩⟩⟩⟩⟩⟩
  · exact List.forall_mem_cons.mpr ⟨va_Nw.of rfl (hts _ (tb_1 _ (List.mem_of_getElem? (i := 128) rfl))), List.forall_mem_cons.mpr ⟨va_Nw.of rfl (hts _ (tb_1 _ (List.mem_of_getElem? (i := 62) rfl))), List.forall_mem_cons.mpr ⟨va_Nw.of rfl (hts _ (tb_1 _ (List.mem_of_getElem? (i := 65) rfl))), List.forall_mem_cons.mpr ⟨va_Nw.of rfl (hts _ (tb_1 _ (List.mem_of_getElem? (i := 69) rfl))), List.forall_mem_cons.mpr ⟨va_Nw.of rfl (hts _ (tb_1 _ (List.mem_of_getElem? (i := 73) rfl))), List.forall_mem_cons.mpr ⟨va_Nw.of rfl (hts _ (tb_1 _ (List.mem_of_getElem? (i := 119) rfl))), List.forall_mem_cons.mpr ⟨va_Nw.of rfl (hts _ (tb_1 _ (List.mem_of_getElem? (i := 122) rfl))), List.forall_mem_cons.mpr ⟨va_Nw.of rfl (hts _ (tb_1 _ (List.mem_of_getElem? (i := 67) rfl))), List.forall_mem_cons.mpr ⟨va_Nw.of rfl (hts _ (tb_1 _ (List.mem_of_getElem? (i := 71) rfl))), List.forall_mem_cons.mpr ⟨va_Nw.of rfl (hts _ (tb_1 _ (List.mem_of_getElem? (i := 126) rfl))), List.forall_mem_cons.mpr ⟨va_Nw.of rfl (hts _ (tb_1 _ (List.mem_of_getElem? (i := 127) rfl))), List.forall_mem_cons.mpr ⟨va_Nw.of rfl (hts _ (tb_1 _ (List.mem_of_getElem? (i := 124) rfl))), List.forall_mem_cons.mpr ⟨va_Nw.of rfl (hts _ (tb_1 _ (List.mem_of_getElem? (i := 116) rfl))), List.forall_mem_cons.mpr ⟨va_Nw.of rfl (hts _ (tb_1 _ (List.mem_of_getElem? (i := 118) rfl))), List.forall_mem_cons.mpr ⟨va_Nw.of rfl (hts _ (tb_1 _ (List.mem_of_getElem? (i := 121) rfl))), List.forall_mem_cons.mpr ⟨va_Nw.of rfl (hts _ (tb_1 _ (List.mem_of_getElem? (i := 61) rfl))), List.forall_mem_cons.mpr ⟨va_Nw.of rfl (hts _ (tb_1 _ (List.mem_of_getElem? (i := 76) rfl))), List.forall_mem_cons.mpr ⟨va_Nw.of rfl (hts _ (tb_1 _ (List.mem_of_getElem? (i := 64) rfl))), List.forall_mem_cons.mpr ⟨va_Nw.of rfl (hts _ (tb_1 _ (List.mem_of_getElem? (i := 68) rfl))), List.forall_mem_cons.mpr ⟨va_Nw.of rfl (hts _ (tb_1 _ (List.mem_of_getElem? (i := 72) rfl))), List.forall_mem_cons.mpr ⟨va_Nw.of rfl (hts _ (tb_1 _ (List.mem_of_getElem? (i := 237) rfl))), List.forall_mem_cons.mpr ⟨va_Nw.of rfl (hts _ (tb_2 _ (List.mem_of_getElem? (i := 18) rfl))), fun _ h => absurd h List.not_mem_nil⟩⟩⟩⟩⟩⟩⟩⟩⟩⟩⟩⟩⟩⟩⟩⟩⟩⟩⟩⟩⟩⟩
  · exact List.forall_mem_cons.mpr ⟨va_Nw.of rfl (hts _ (tb_3 _ (List.mem_of_getElem? (i := 134) rfl))), List.forall_mem_cons.mpr ⟨va_Nw.of rfl (hts _ (tb_3 _ (List.mem_of_getElem? (i := 136) rfl))), List.forall_mem_cons.mpr ⟨va_Nw.of rfl (hts _ (tb_3 _ (List.mem_of_getElem? (i := 138) rfl))), fun _ h => absurd h List.not_mem_nil⟩⟩⟩
theorem st_AO {C : String} {s : State} {args : Array Value} (h : (Cond.arrayOver (.object C)).before args s = true) : va_AO C s := va_AO.of (A := args) h
set_option maxRecDepth 100000 in
theorem st_XA {s : State} {args : Array Value} (hts : ∀ w ∈ lw_tbl, w.before args s = true) : XA s := by
  refine ⟨?_, va_AO.moved (Vm.Alike.refl _) (st_AO (hts _ (tb_1 _ (List.mem_of_getElem? (i := 114) rfl)))), va_AO.moved (Vm.Alike.refl _) (st_AO (hts _ (tb_1 _ (List.mem_of_getElem? (i := 146) rfl))))⟩
  exact List.forall_mem_cons.mpr ⟨va_Nw.of rfl (hts _ (tb_1 _ (List.mem_of_getElem? (i := 149) rfl))), List.forall_mem_cons.mpr ⟨va_Nw.of rfl (hts _ (tb_1 _ (List.mem_of_getElem? (i := 214) rfl))), List.forall_mem_cons.mpr ⟨va_Nw.of rfl (hts _ (tb_1 _ (List.mem_of_getElem? (i := 227) rfl))), List.forall_mem_cons.mpr ⟨va_Nw.of rfl (hts _ (tb_2 _ (List.mem_of_getElem? (i := 11) rfl))), List.forall_mem_cons.mpr ⟨va_Nw.of rfl (hts _ (tb_1 _ (List.mem_of_getElem? (i := 56) rfl))), List.forall_mem_cons.mpr ⟨va_Nw.of rfl (hts _ (tb_1 _ (List.mem_of_getElem? (i := 155) rfl))), List.forall_mem_cons.mpr ⟨va_Nw.of rfl (hts _ (tb_1 _ (List.mem_of_getElem? (i := 37) rfl))), List.forall_mem_cons.mpr ⟨va_Nw.of rfl (hts _ (tb_1 _ (List.mem_of_getElem? (i := 232) rfl))), List.forall_mem_cons.mpr ⟨va_Nw.of rfl (hts _ (tb_2 _ (List.mem_of_getElem? (i := 16) rfl))), fun _ h => absurd h List.not_mem_nil⟩⟩⟩⟩⟩⟩⟩⟩⟩
set_option maxRecDepth 100000 in
theorem st_Zu {s : State} {args : Array Value} (hts : ∀ w ∈ lw_tbl, w.before args s = true) (hgs : ∀ w ∈ flatC (Jvm.Cond.and given_1 narrow_1), w.before args s = true) : vx_Zq Bundle.tN "UNASSIGNED_STACK" Bundle.steD (fun q => s.heap.size ≤ q) s s.heap := vx_Zqof (hts _ (tb_3 _ (List.mem_of_getElem? (i := 157) rfl))) (hts _ (tb_1 _ (List.mem_of_getElem? (i := 12) rfl))) (hgs _ (List.mem_of_getElem? (i := 4) (by rfl))) (fun a h1 h2 => absurd h1 (Nat.not_lt.mpr h2))
set_option maxRecDepth 100000 in
theorem st_Zn {s : State} {args : Array Value} (hts : ∀ w ∈ lw_tbl, w.before args s = true) (hgs : ∀ w ∈ flatC (Jvm.Cond.and given_1 narrow_1), w.before args s = true) : vx_Zq Bundle.tN "SUPPRESSED_SENTINEL" Bundle.listD (fun q => s.heap.size ≤ q) s s.heap := vx_Zqof (hts _ (tb_3 _ (List.mem_of_getElem? (i := 159) rfl))) (hts _ (tb_1 _ (List.mem_of_getElem? (i := 12) rfl))) (hgs _ (List.mem_of_getElem? (i := 5) (by rfl))) (fun a h1 h2 => absurd h1 (Nat.not_lt.mpr h2))
theorem st_arr {s : State} {ty : FieldType} {args : Array Value} (h : (Cond.arrayClass ty).before args s = true) (hno : ∀ C, ty ≠ .object C) : ∃ c, ArrOfT s c ty ∧ va_RA s c ty := by
  obtain ⟨c, k, comp, h1, h2, h3⟩ := Cond.arrayClass_spec h
  refine ⟨c, fun n z => ⟨fun k h => (by cases h), k, h2, comp, h3⟩, ?_⟩
  cases ty with
  | object C => exact absurd rfl (hno C)
  | _ => exact h1
theorem st_arrO {s : State} {C : String} {args : Array Value} (h : (Cond.arrayOver (.object C)).before args s = true) : ∃ c, ArrOfT s c (.object C) ∧ va_RA s c (.object C) := by
  obtain ⟨comp, c, k, h1, h2, h3, h4, h5⟩ := Cond.arrayOver_spec h
  exact ⟨c, fun n z => ⟨fun k h => (by cases h), k, h3, comp, h4⟩, k, comp, h3, h4, h1, h5⟩
set_option maxRecDepth 100000 in
theorem st_K {s : State} {args : Array Value} (hts : ∀ w ∈ lw_tbl, w.before args s = true) : ∃ (D : va_G) (ac : Nat → ClassId), ∀ (l : Launch) (ad : Nat → Nat) (z : Nat), va_K D classes (tysX (l, D, ad, z, ac)) s := by
  obtain ⟨c0, i0, k0⟩ := u_known (C := RX0) (T := TX0) (N := 2) (n := 2) hts inX0 (hts _ (tb_1 _ (List.mem_of_getElem? (i := 36) rfl)))
  obtain ⟨c1, i1, k1⟩ := u_known (C := RX1) (T := TX1) (N := 14) (n := 14) hts inX1 (hts _ (tb_1 _ (List.mem_of_getElem? (i := 50) rfl)))
  obtain ⟨c2, i2, k2⟩ := u_known (C := RX2) (T := TX2) (N := 11) (n := 11) hts inX2 (hts _ (tb_1 _ (List.mem_of_getElem? (i := 148) rfl)))
  obtain ⟨c3, i3, k3⟩ := u_known (C := RX3) (T := TX3) (N := 6) (n := 6) hts inX3 (hts _ (tb_1 _ (List.mem_of_getElem? (i := 154) rfl)))
  obtain ⟨c4, i4, k4⟩ := u_known (C := RX4) (T := TX4) (N := 7) (n := 7) hts inX4 (hts _ (tb_1 _ (List.mem_of_getElem? (i := 30) rfl)))
  obtain ⟨c5, i5, k5⟩ := u_known (C := RX5) (T := TX5) (N := 2) (n := 2) hts inX5 (hts _ (tb_1 _ (List.mem_of_getElem? (i := 213) rfl)))
  obtain ⟨c6, i6, k6⟩ := u_known (C := RX6) (T := TX6) (N := 4) (n := 4) hts inX6 (hts _ (tb_1 _ (List.mem_of_getElem? (i := 226) rfl)))
  obtain ⟨c7, i7, k7⟩ := u_known (C := RX7) (T := TX7) (N := 1) (n := 1) hts inX7 (hts _ (tb_2 _ (List.mem_of_getElem? (i := 10) rfl)))
  obtain ⟨c8, i8, k8⟩ := u_known (C := RX8) (T := TX8) (N := 8) (n := 8) hts inX8 (hts _ (tb_1 _ (List.mem_of_getElem? (i := 22) rfl)))
  obtain ⟨c9, i9, k9⟩ := u_known (C := RX9) (T := TX9) (N := 27) (n := 27) hts inX9 (hts _ (tb_6 _ (List.mem_of_getElem? (i := 19) rfl)))
  obtain ⟨a0, e0⟩ := st_arr (hts _ (tb_1 _ (List.mem_of_getElem? (i := 48) rfl))) (fun C h => by cases h)
  obtain ⟨a1, e1⟩ := st_arr (hts _ (tb_6 _ (List.mem_of_getElem? (i := 106) rfl))) (fun C h => by cases h)
  obtain ⟨a2, e2⟩ := st_arr (hts _ (tb_8 _ (List.mem_of_getElem? (i := 58) rfl))) (fun C h => by cases h)
  obtain ⟨a3, e3⟩ := st_arrO (hts _ (tb_1 _ (List.mem_of_getElem? (i := 114) rfl)))
  obtain ⟨a4, e4⟩ := st_arrO (hts _ (tb_1 _ (List.mem_of_getElem? (i := 146) rfl)))
  refine ⟨(fun k => [c0, c1, c2, c3, c4, c5, c6, c7, c8, c9].getD k 0, fun k => [i0, i1, i2, i3, i4, i5, i6, i7, i8, i9].getD k (fun _ => 0)), fun k => [a0, a1, a2, a3, a4].getD k 0, fun l ad z => ⟨?_, ?_⟩⟩
  · intro k q hq
    match k, hq with
    | 0, hq => cases hq; exact k0
    | 1, hq => cases hq; exact k1
    | 2, hq => cases hq; exact k2
    | 3, hq => cases hq; exact k3
    | 4, hq => cases hq; exact k4
    | 5, hq => cases hq; exact k5
    | 6, hq => cases hq; exact k6
    | 7, hq => cases hq; exact k7
    | 8, hq => cases hq; exact k8
    | 9, hq => cases hq; exact k9
    | k + 10, hq => simp [classes] at hq
  · intro k q hq
    match k, hq with
    | 0, hq => cases hq; exact e0
    | 1, hq => cases hq; exact e1
    | 2, hq => cases hq; exact e2
    | 3, hq => cases hq; exact e3
    | 4, hq => cases hq; exact e4
    | k + 5, hq => simp [tysX] at hq
/-! the store at first -/
def plk (p : Nat) : Int32 := if p = 3 then 120 else if p = 4 then 60 else if p = 5 then (-1) else if p = 8 then 3 else if p = 9 then (-1) else if p = 13 then (-1) else if p = 14 then (-1) else 0
def stc (o : Nat) : Int32 := if o < 5 then 0 else if o < 21 then plk (o - 5) else if o < 22 then 0 else plk ((o - 22) % 16)
def cc0 (k : Nat) : Int32 := if k < 1 then 0 else if k < 71 then stc (k - 1) else if k < 72 then 0 else if k < 422 then stc ((k - 72) % 70) else if k < 443 then 0 else if k < 459 then plk (k - 443) else 0
def σ0 : Sg := (fun k => if k = 463 then nowI else fun _ => cc0 k, fun _ _ => 0)
def cwl (X : Xc) (σ : Sg) : Nat → List (Nat × List Nat) → va_W
  | _, [] => []
  | b, q :: t => (X.ad b, cellE X q (σ.1 b) (σ.2 b)) :: cwl X σ (b + 1) t
theorem cwl_app {X : Xc} {σ : Sg} : ∀ (s1 s2 : List (Nat × List Nat)) (b : Nat), cwl X σ b (s1 ++ s2) = cwl X σ b s1 ++ cwl X σ (b + s1.length) s2
  | [], _, _ => rfl
  | q :: t, s2, b => by
    show (X.ad b, cellE X q (σ.1 b) (σ.2 b)) :: cwl X σ (b + 1) (t ++ s2) = _
    rw [cwl_app t s2 (b + 1), List.length_cons, show b + 1 + t.length = b + (t.length + 1) by omega]
    rfl
theorem cwl_wl {X : Xc} {σ : Sg} : ∀ (sh : List (Nat × List Nat)) (b : Nat), (List.range sh.length).map (fun k => (X.ad (b + k), cellE X ((sh[k]?).getD (0, [])) (σ.1 (b + k)) (σ.2 (b + k)))) = cwl X σ b sh
  | [], _ => rfl
  | q :: t, b => by
    rw [List.length_cons, List.range_succ_eq_map, List.map_cons, List.map_map]
    show _ :: _ = (X.ad b, cellE X q (σ.1 b) (σ.2 b)) :: cwl X σ (b + 1) t
    rw [← cwl_wl t (b + 1)]
    refine List.cons_eq_cons.mpr ⟨rfl, List.map_congr_left (fun k _ => ?_)⟩
    show (X.ad (b + (k + 1)), cellE X (((q :: t)[k + 1]?).getD (0, [])) (σ.1 (b + (k + 1))) (σ.2 (b + (k + 1)))) = _
    rw [show b + (k + 1) = b + 1 + k by omega, List.getElem?_cons_succ]
set_option maxRecDepth 100000 in
theorem wX_cwl {X : Xc} {σ : Sg} : wX X σ = cwl X σ 0 SHP := by
  rw [← cwl_wl SHP 0]
  show (List.range SHP.length).map _ = _
  refine List.map_congr_left (fun k _ => ?_)
  rw [Nat.zero_add]
theorem perm_st {α : Type} (o a b c p q r s : List α) : (o ++ (a ++ (b ++ (c ++ (p ++ (q ++ (r ++ s))))))).Perm (o ++ (c ++ ((((a ++ b) ++ p) ++ q) ++ r)) ++ s) := by
  classical
  rw [List.perm_iff_count]
  intro x
  simp only [List.count_append]
  omega
theorem perm_dl {α : Type} (o s rc r0 r1 r2 r3 r4 p t d w m z : List α) : (o ++ (s ++ (rc ++ (r0 ++ (r1 ++ (r2 ++ (r3 ++ (r4 ++ (p ++ (t ++ (d ++ (w ++ (m ++ z))))))))))))).Perm (((o ++ rc) ++ (((((((((s ++ p) ++ t) ++ d) ++ w) ++ r0) ++ r1) ++ r2) ++ r3) ++ r4)) ++ (m ++ z)) := by
  classical
  rw [List.perm_iff_count]
  intro x
  simp only [List.count_append]
  omega

set_option maxRecDepth 100000 in
theorem e_or4 (X : Xc) : cwl X σ0 4 (shOr 4) = orW X (fun k => X.ad (4 + k)) := rfl
set_option maxRecDepth 100000 in
theorem e_pl6 (X : Xc) : cwl X σ0 6 (shPl 6) = plW X (fun k => X.ad (6 + k)) := rfl
set_option maxRecDepth 100000 in
theorem e_pl23 (X : Xc) : cwl X σ0 23 (shPl 23) = plW X (fun k => X.ad (23 + k)) := rfl
set_option maxRecDepth 100000 in
theorem e_pl39 (X : Xc) : cwl X σ0 39 (shPl 39) = plW X (fun k => X.ad (39 + k)) := rfl
set_option maxRecDepth 100000 in
theorem e_pl55 (X : Xc) : cwl X σ0 55 (shPl 55) = plW X (fun k => X.ad (55 + k)) := rfl
theorem e_sl22 (X : Xc) : cwl X σ0 22 [(3, [23, 39, 55])] = [(X.ad 22, .inl (X.ac 3, 3, .inr (.inr (.inr (.inr (sl3 (X.ad 23) (X.ad 39) (X.ad 55)))))))] := by
  refine congrArg (fun f => [(X.ad 22, (.inl (X.ac 3, 3, .inr (.inr (.inr (.inr f)))) : va_E))]) (funext fun j => ?_)
  match j with
  | 0 => rfl
  | 1 => rfl
  | 2 => rfl
  | j + 3 => simp [sl3, va_up]
theorem e_st1 (X : Xc) : (cwl X σ0 1 (shSt 1)).Perm (stW X (fun k => X.ad (1 + k))) := by
  unfold shSt
  rw [cwl_app, cwl_app, cwl_app, cwl_app, cwl_app, cwl_app, cwl_app]
  show (cwl X σ0 1 (shStA 1) ++ (cwl X σ0 4 (shOr 4) ++ (cwl X σ0 6 (shPl 6) ++ (cwl X σ0 22 [(3, [23, 39, 55])] ++ (cwl X σ0 23 (shPl 23) ++ (cwl X σ0 39 (shPl 39) ++ (cwl X σ0 55 (shPl 55) ++ []))))))).Perm _
  rw [e_or4, e_pl6, e_sl22, e_pl23, e_pl39, e_pl55]
  refine (perm_st _ _ _ _ _ _ _ _).trans ?_
  rw [List.append_nil]
  exact List.Perm.refl _
set_option maxRecDepth 100000 in
theorem e_or75 (X : Xc) : cwl X σ0 75 (shOr 75) = orW X (fun k => X.ad (75 + k)) := rfl
set_option maxRecDepth 100000 in
theorem e_pl77 (X : Xc) : cwl X σ0 77 (shPl 77) = plW X (fun k => X.ad (77 + k)) := rfl
set_option maxRecDepth 100000 in
theorem e_pl94 (X : Xc) : cwl X σ0 94 (shPl 94) = plW X (fun k => X.ad (94 + k)) := rfl
set_option maxRecDepth 100000 in
theorem e_pl110 (X : Xc) : cwl X σ0 110 (shPl 110) = plW X (fun k => X.ad (110 + k)) := rfl
set_option maxRecDepth 100000 in
theorem e_pl126 (X : Xc) : cwl X σ0 126 (shPl 126) = plW X (fun k => X.ad (126 + k)) := rfl
theorem e_sl93 (X : Xc) : cwl X σ0 93 [(3, [94, 110, 126])] = [(X.ad 93, .inl (X.ac 3, 3, .inr (.inr (.inr (.inr (sl3 (X.ad 94) (X.ad 110) (X.ad 126)))))))] := by
  refine congrArg (fun f => [(X.ad 93, (.inl (X.ac 3, 3, .inr (.inr (.inr (.inr f)))) : va_E))]) (funext fun j => ?_)
  match j with
  | 0 => rfl
  | 1 => rfl
  | 2 => rfl
  | j + 3 => simp [sl3, va_up]
theorem e_st72 (X : Xc) : (cwl X σ0 72 (shSt 72)).Perm (stW X (fun k => X.ad (72 + k))) := by
  unfold shSt
  rw [cwl_app, cwl_app, cwl_app, cwl_app, cwl_app, cwl_app, cwl_app]
  show (cwl X σ0 72 (shStA 72) ++ (cwl X σ0 75 (shOr 75) ++ (cwl X σ0 77 (shPl 77) ++ (cwl X σ0 93 [(3, [94, 110, 126])] ++ (cwl X σ0 94 (shPl 94) ++ (cwl X σ0 110 (shPl 110) ++ (cwl X σ0 126 (shPl 126) ++ []))))))).Perm _
  rw [e_or75, e_pl77, e_sl93, e_pl94, e_pl110, e_pl126]
  refine (perm_st _ _ _ _ _ _ _ _).trans ?_
  rw [List.append_nil]
  exact List.Perm.refl _
set_option maxRecDepth 100000 in
theorem e_or145 (X : Xc) : cwl X σ0 145 (shOr 145) = orW X (fun k => X.ad (145 + k)) := rfl
set_option maxRecDepth 100000 in
theorem e_pl147 (X : Xc) : cwl X σ0 147 (shPl 147) = plW X (fun k => X.ad (147 + k)) := rfl
set_option maxRecDepth 100000 in
theorem e_pl164 (X : Xc) : cwl X σ0 164 (shPl 164) = plW X (fun k => X.ad (164 + k)) := rfl
set_option maxRecDepth 100000 in
theorem e_pl180 (X : Xc) : cwl X σ0 180 (shPl 180) = plW X (fun k => X.ad (180 + k)) := rfl
set_option maxRecDepth 100000 in
theorem e_pl196 (X : Xc) : cwl X σ0 196 (shPl 196) = plW X (fun k => X.ad (196 + k)) := rfl
theorem e_sl163 (X : Xc) : cwl X σ0 163 [(3, [164, 180, 196])] = [(X.ad 163, .inl (X.ac 3, 3, .inr (.inr (.inr (.inr (sl3 (X.ad 164) (X.ad 180) (X.ad 196)))))))] := by
  refine congrArg (fun f => [(X.ad 163, (.inl (X.ac 3, 3, .inr (.inr (.inr (.inr f)))) : va_E))]) (funext fun j => ?_)
  match j with
  | 0 => rfl
  | 1 => rfl
  | 2 => rfl
  | j + 3 => simp [sl3, va_up]
theorem e_st142 (X : Xc) : (cwl X σ0 142 (shSt 142)).Perm (stW X (fun k => X.ad (142 + k))) := by
  unfold shSt
  rw [cwl_app, cwl_app, cwl_app, cwl_app, cwl_app, cwl_app, cwl_app]
  show (cwl X σ0 142 (shStA 142) ++ (cwl X σ0 145 (shOr 145) ++ (cwl X σ0 147 (shPl 147) ++ (cwl X σ0 163 [(3, [164, 180, 196])] ++ (cwl X σ0 164 (shPl 164) ++ (cwl X σ0 180 (shPl 180) ++ (cwl X σ0 196 (shPl 196) ++ []))))))).Perm _
  rw [e_or145, e_pl147, e_sl163, e_pl164, e_pl180, e_pl196]
  refine (perm_st _ _ _ _ _ _ _ _).trans ?_
  rw [List.append_nil]
  exact List.Perm.refl _
set_option maxRecDepth 100000 in
theorem e_or215 (X : Xc) : cwl X σ0 215 (shOr 215) = orW X (fun k => X.ad (215 + k)) := rfl
set_option maxRecDepth 100000 in
theorem e_pl217 (X : Xc) : cwl X σ0 217 (shPl 217) = plW X (fun k => X.ad (217 + k)) := rfl
set_option maxRecDepth 100000 in
theorem e_pl234 (X : Xc) : cwl X σ0 234 (shPl 234) = plW X (fun k => X.ad (234 + k)) := rfl
set_option maxRecDepth 100000 in
theorem e_pl250 (X : Xc) : cwl X σ0 250 (shPl 250) = plW X (fun k => X.ad (250 + k)) := rfl
set_option maxRecDepth 100000 in
theorem e_pl266 (X : Xc) : cwl X σ0 266 (shPl 266) = plW X (fun k => X.ad (266 + k)) := rfl
theorem e_sl233 (X : Xc) : cwl X σ0 233 [(3, [234, 250, 266])] = [(X.ad 233, .inl (X.ac 3, 3, .inr (.inr (.inr (.inr (sl3 (X.ad 234) (X.ad 250) (X.ad 266)))))))] := by
  refine congrArg (fun f => [(X.ad 233, (.inl (X.ac 3, 3, .inr (.inr (.inr (.inr f)))) : va_E))]) (funext fun j => ?_)
  match j with
  | 0 => rfl
  | 1 => rfl
  | 2 => rfl
  | j + 3 => simp [sl3, va_up]
theorem e_st212 (X : Xc) : (cwl X σ0 212 (shSt 212)).Perm (stW X (fun k => X.ad (212 + k))) := by
  unfold shSt
  rw [cwl_app, cwl_app, cwl_app, cwl_app, cwl_app, cwl_app, cwl_app]
  show (cwl X σ0 212 (shStA 212) ++ (cwl X σ0 215 (shOr 215) ++ (cwl X σ0 217 (shPl 217) ++ (cwl X σ0 233 [(3, [234, 250, 266])] ++ (cwl X σ0 234 (shPl 234) ++ (cwl X σ0 250 (shPl 250) ++ (cwl X σ0 266 (shPl 266) ++ []))))))).Perm _
  rw [e_or215, e_pl217, e_sl233, e_pl234, e_pl250, e_pl266]
  refine (perm_st _ _ _ _ _ _ _ _).trans ?_
  rw [List.append_nil]
  exact List.Perm.refl _
set_option maxRecDepth 100000 in
theorem e_or285 (X : Xc) : cwl X σ0 285 (shOr 285) = orW X (fun k => X.ad (285 + k)) := rfl
set_option maxRecDepth 100000 in
theorem e_pl287 (X : Xc) : cwl X σ0 287 (shPl 287) = plW X (fun k => X.ad (287 + k)) := rfl
set_option maxRecDepth 100000 in
theorem e_pl304 (X : Xc) : cwl X σ0 304 (shPl 304) = plW X (fun k => X.ad (304 + k)) := rfl
set_option maxRecDepth 100000 in
theorem e_pl320 (X : Xc) : cwl X σ0 320 (shPl 320) = plW X (fun k => X.ad (320 + k)) := rfl
set_option maxRecDepth 100000 in
theorem e_pl336 (X : Xc) : cwl X σ0 336 (shPl 336) = plW X (fun k => X.ad (336 + k)) := rfl
theorem e_sl303 (X : Xc) : cwl X σ0 303 [(3, [304, 320, 336])] = [(X.ad 303, .inl (X.ac 3, 3, .inr (.inr (.inr (.inr (sl3 (X.ad 304) (X.ad 320) (X.ad 336)))))))] := by
  refine congrArg (fun f => [(X.ad 303, (.inl (X.ac 3, 3, .inr (.inr (.inr (.inr f)))) : va_E))]) (funext fun j => ?_)
  match j with
  | 0 => rfl
  | 1 => rfl
  | 2 => rfl
  | j + 3 => simp [sl3, va_up]
theorem e_st282 (X : Xc) : (cwl X σ0 282 (shSt 282)).Perm (stW X (fun k => X.ad (282 + k))) := by
  unfold shSt
  rw [cwl_app, cwl_app, cwl_app, cwl_app, cwl_app, cwl_app, cwl_app]
  show (cwl X σ0 282 (shStA 282) ++ (cwl X σ0 285 (shOr 285) ++ (cwl X σ0 287 (shPl 287) ++ (cwl X σ0 303 [(3, [304, 320, 336])] ++ (cwl X σ0 304 (shPl 304) ++ (cwl X σ0 320 (shPl 320) ++ (cwl X σ0 336 (shPl 336) ++ []))))))).Perm _
  rw [e_or285, e_pl287, e_sl303, e_pl304, e_pl320, e_pl336]
  refine (perm_st _ _ _ _ _ _ _ _).trans ?_
  rw [List.append_nil]
  exact List.Perm.refl _
set_option maxRecDepth 100000 in
theorem e_or355 (X : Xc) : cwl X σ0 355 (shOr 355) = orW X (fun k => X.ad (355 + k)) := rfl
set_option maxRecDepth 100000 in
theorem e_pl357 (X : Xc) : cwl X σ0 357 (shPl 357) = plW X (fun k => X.ad (357 + k)) := rfl
set_option maxRecDepth 100000 in
theorem e_pl374 (X : Xc) : cwl X σ0 374 (shPl 374) = plW X (fun k => X.ad (374 + k)) := rfl
set_option maxRecDepth 100000 in
theorem e_pl390 (X : Xc) : cwl X σ0 390 (shPl 390) = plW X (fun k => X.ad (390 + k)) := rfl
set_option maxRecDepth 100000 in
theorem e_pl406 (X : Xc) : cwl X σ0 406 (shPl 406) = plW X (fun k => X.ad (406 + k)) := rfl
theorem e_sl373 (X : Xc) : cwl X σ0 373 [(3, [374, 390, 406])] = [(X.ad 373, .inl (X.ac 3, 3, .inr (.inr (.inr (.inr (sl3 (X.ad 374) (X.ad 390) (X.ad 406)))))))] := by
  refine congrArg (fun f => [(X.ad 373, (.inl (X.ac 3, 3, .inr (.inr (.inr (.inr f)))) : va_E))]) (funext fun j => ?_)
  match j with
  | 0 => rfl
  | 1 => rfl
  | 2 => rfl
  | j + 3 => simp [sl3, va_up]
theorem e_st352 (X : Xc) : (cwl X σ0 352 (shSt 352)).Perm (stW X (fun k => X.ad (352 + k))) := by
  unfold shSt
  rw [cwl_app, cwl_app, cwl_app, cwl_app, cwl_app, cwl_app, cwl_app]
  show (cwl X σ0 352 (shStA 352) ++ (cwl X σ0 355 (shOr 355) ++ (cwl X σ0 357 (shPl 357) ++ (cwl X σ0 373 [(3, [374, 390, 406])] ++ (cwl X σ0 374 (shPl 374) ++ (cwl X σ0 390 (shPl 390) ++ (cwl X σ0 406 (shPl 406) ++ []))))))).Perm _
  rw [e_or355, e_pl357, e_sl373, e_pl374, e_pl390, e_pl406]
  refine (perm_st _ _ _ _ _ _ _ _).trans ?_
  rw [List.append_nil]
  exact List.Perm.refl _
set_option maxRecDepth 100000 in
theorem e_pn (X : Xc) : cwl X σ0 422 (shPn 422) = pnW X (fun k => X.ad (422 + k)) := rfl
set_option maxRecDepth 100000 in
theorem e_tx (X : Xc) : cwl X σ0 438 (shTx 438) = txW X (fun k => X.ad (438 + k)) := rfl
set_option maxRecDepth 100000 in
theorem e_rd (X : Xc) : cwl X σ0 440 (shRd 440) = rdW X (fun k => X.ad (440 + k)) := rfl
set_option maxRecDepth 100000 in
theorem e_wr (X : Xc) : cwl X σ0 459 (shWr 459) = wrW X (fun k => X.ad (459 + k)) := rfl
set_option maxRecDepth 100000 in
theorem e_mo (X : Xc) : cwl X σ0 462 (shMo 462) = moW X (fun k => X.ad (462 + k)) := rfl
set_option maxRecDepth 100000 in
theorem e_ou (X : Xc) : cwl X σ0 476 [(2, [1])] = [(X.ad 476, (.inl (X.ac 2, 1, .inr (.inl (fun _ => 0))) : va_E))] := rfl
theorem e_rc (X : Xc) : cwl X σ0 71 [(4, [72, 142, 212, 282, 352])] = [(X.ad 71, .inl (X.ac 4, 5, .inr (.inr (.inr (.inr (sl5 (X.ad 72) (X.ad 142) (X.ad 212) (X.ad 282) (X.ad 352)))))))] := by
  refine congrArg (fun f => [(X.ad 71, (.inl (X.ac 4, 5, .inr (.inr (.inr (.inr f)))) : va_E))]) (funext fun j => ?_)
  match j with
  | 0 => rfl
  | 1 => rfl
  | 2 => rfl
  | 3 => rfl
  | 4 => rfl
  | j + 5 => simp [sl5, va_up]
set_option maxRecDepth 100000 in
theorem e_all (X : Xc) : (dlW X (fun k => X.ad (0 + k)) ++ (moW X (fun k => X.ad (462 + k)) ++ [(X.ad 476, (.inl (X.ac 2, 1, .inr (.inl (fun _ => 0))) : va_E))])).Perm (wX X σ0) := by
  rw [wX_cwl]
  unfold SHP
  rw [cwl_app, cwl_app, cwl_app, cwl_app, cwl_app, cwl_app, cwl_app, cwl_app, cwl_app, cwl_app, cwl_app, cwl_app, cwl_app]
  show (dlW X (fun k => X.ad (0 + k)) ++ (moW X (fun k => X.ad (462 + k)) ++ [(X.ad 476, (.inl (X.ac 2, 1, .inr (.inl (fun _ => 0))) : va_E))])).Perm (cwl X σ0 0 shDL ++ (cwl X σ0 1 (shSt 1) ++ (cwl X σ0 71 [(4, [72, 142, 212, 282, 352])] ++ (cwl X σ0 72 (shSt 72) ++ (cwl X σ0 142 (shSt 142) ++ (cwl X σ0 212 (shSt 212) ++ (cwl X σ0 282 (shSt 282) ++ (cwl X σ0 352 (shSt 352) ++ (cwl X σ0 422 (shPn 422) ++ (cwl X σ0 438 (shTx 438) ++ (cwl X σ0 440 (shRd 440) ++ (cwl X σ0 459 (shWr 459) ++ (cwl X σ0 462 (shMo 462) ++ cwl X σ0 476 [(2, [1])])))))))))))))
  rw [e_rc, e_pn, e_tx, e_rd, e_wr, e_mo, e_ou]
  refine List.Perm.symm ((List.Perm.append_left _ ((e_st1 X).append (List.Perm.append_left _ ((e_st72 X).append ((e_st142 X).append ((e_st212 X).append ((e_st282 X).append ((e_st352 X).append (List.Perm.refl _))))))))).trans ?_)
  exact (perm_dl (cwl X σ0 0 shDL) _ _ _ _ _ _ _ _ _ _ _ _ _).trans (List.Perm.refl _)
theorem okx_of {X : Xc} {A : Nat → Prop} {σ : Sg} (h : va_D A (wX X σ)) (hA : ∀ q, A q → X.z ≤ q) : OkX X SHP.length := by
  refine ⟨fun i j hi hj e => ?_, fun i hi => ?_⟩
  · obtain ⟨p, hp⟩ : ∃ p, SHP[i]? = some p := ⟨_, List.getElem?_eq_getElem hi⟩
    obtain ⟨q, hq⟩ : ∃ q, SHP[j]? = some q := ⟨_, List.getElem?_eq_getElem hj⟩
    exact h.1 i j _ _ (wl_get hp) (wl_get hq) e
  · obtain ⟨p, hp⟩ : ∃ p, SHP[i]? = some p := ⟨_, List.getElem?_eq_getElem hi⟩
    exact hA _ (h.2 i _ (wl_get hp))

set_option maxRecDepth 100000 in
/-- from the law's entry to the head of its loop -/
theorem law_start {p : Program} {e : Env} {s : State} {m : MethodId} {below : List Frame} {meth : Method} {c : Code} (l : Launch) (hflags : l.flags = flags0) {b L : Nat} {xs : Nat → Int32} (n : Nat) (hn : 478 + n * 12 ≤ 601024 ∧ 12815 + n * 72 ≤ 7293033) (hgo : fL_loop L xs n σ0 0 = some true) (C0 : lw_At p s m meth c b L xs) : W p l e room_1 s m #[Value.ref b] below meth c s.heap [] 0 0 (lw_Z below #[Value.ref b] s) (entryFrame m ([Value.ref b] : List Value).toArray 7) := by
  obtain ⟨hx, hb, hr, hml, hown, hts, hX, hbl, hlocks, hgv⟩ := id C0
  have hgs := flat_of_before _ hgv
  obtain ⟨D, ac, hKall⟩ := st_K hts
  have hXK : XK s := st_XK hts hgs
  have hXA : XA s := st_XA hts
  have hfl : l.stackTraces = false := by
    unfold Launch.stackTraces
    rw [hflags]
    rfl
  have hwl : ∀ w ∈ wsL_law, w.before #[Value.ref b] s = true := fun w h => hts w (wsL_law_in w h)
  obtain ⟨K, hK⟩ : ∃ K : Kc, K = (p, e, room_1, s, m, #[Value.ref b], below, meth, c) := ⟨_, rfl⟩
  obtain ⟨X, hXe⟩ : ∃ X : Xc, X = (l, D, fun _ => 0, s.heap.size, ac) := ⟨_, rfl⟩
  have C : MA X K cL_law 7 RL room_1 (fun q => s.heap.size ≤ q) := by
    subst hK
    subst hXe
    exact ⟨⟨hx, hb, hml, hown, hwl⟩, hKall _ _ _, fun _ h => h, hlocks, rfl, hXA⟩
  have hl := lo0_lvo [.ref b] 7 (Nat.le_of_ble_eq_true rfl)
  rw [lg_entry_eq]
  generalize (lg_sl ([.ref b]) ++ List.replicate (7 - (lg_sl ([.ref b])).length) Slot.unset).toArray = ls at hl ⊢
  suffices hG : GA X K (fun q => s.heap.size ≤ q) 7 (lw_Z below #[Value.ref b] s) [] 0 0 0 [some (.ref b), none, none, none, none, none, none] [] by
    have := hG s.heap [] ls (fun k q h => by simp at h) ⟨fun i j p q h => by simp at h, fun k q h => by simp at h⟩ (by subst hK; exact va_S.rf) hl
    subst hK
    subst hXe
    exact this
  refine a_new (pc := 0) (ci := 8) (N := 8) (T := TX8) (Cn := RX8) (fs := [.null, .null, .int 0, .int 0, .null, .null, .null, .null]) (fun a0 => [(a0, .inr (8, [.null, .null, .int 0, .int 0, .null, .null, .null, .null]))]) C rfl inlX8 tyX8_ok q_1_0 q_1_1 q_1_2 (fun j hj => by rcases (show j = 0 ∨ j = 1 ∨ j = 2 ∨ j = 3 ∨ j = 4 ∨ j = 5 ∨ j = 6 ∨ j = 7 by omega) with rfl | rfl | rfl | rfl | rfl | rfl | rfl | rfl <;> rfl) (Nat.le_of_ble_eq_true rfl) (Nat.le_of_ble_eq_true rfl) dL_law_0 (fun _ => rfl) (fun a0 => ?_)
  refine a_dup (pc := 3) C dL_law_3 rfl ?_
  refine a_init (pc := 4) (W0 := []) C (fun sz => iX8_init X a0 sz) q_1_7 q_1_8 q_1_2 q_1_9 rfl hdX8_init ⟨Nat.le_of_ble_eq_true rfl, Nat.le_of_ble_eq_true rfl, rfl, rfl, Nat.le_of_ble_eq_true rfl, Nat.le_of_ble_eq_true rfl⟩ (Nat.le_of_ble_eq_true rfl) dL_law_4 rfl (fun w8 hw8 => ?_)
  obtain ⟨q, e0, p0⟩ := hw8
  subst e0
  refine a_perm (ws' := dlW X q) (by simpa using p0) ?_
  refine a_astore_n (pc := 7) (i := 1) C dL_law_7 rfl (Nat.le_of_ble_eq_true rfl) rfl ?_
  refine a_new (pc := 8) (ci := 9) (N := 27) (T := TX9) (Cn := RX9) (fs := [.null, .null, .int 0, .int 0, .null, .int 0, .null, .null, .null, .null, .null, .null, .int 0, .int 0, .int 0, .int 0, .int 0, .null, .null, .int 0, .int 0, .int 0, .int 0, .null, .null, .int 0, .long 0]) (fun a1 => dlW X q ++ [(a1, .inr (9, [.null, .null, .int 0, .int 0, .null, .int 0, .null, .null, .null, .null, .null, .null, .int 0, .int 0, .int 0, .int 0, .int 0, .null, .null, .int 0, .int 0, .int 0, .int 0, .null, .null, .int 0, .long 0]))]) C rfl inlX9 tyX9_ok q_1_3 q_1_4 q_1_5 (fun j hj => by rcases (show j = 0 ∨ j = 1 ∨ j = 2 ∨ j = 3 ∨ j = 4 ∨ j = 5 ∨ j = 6 ∨ j = 7 ∨ j = 8 ∨ j = 9 ∨ j = 10 ∨ j = 11 ∨ j = 12 ∨ j = 13 ∨ j = 14 ∨ j = 15 ∨ j = 16 ∨ j = 17 ∨ j = 18 ∨ j = 19 ∨ j = 20 ∨ j = 21 ∨ j = 22 ∨ j = 23 ∨ j = 24 ∨ j = 25 ∨ j = 26 by omega) with rfl | rfl | rfl | rfl | rfl | rfl | rfl | rfl | rfl | rfl | rfl | rfl | rfl | rfl | rfl | rfl | rfl | rfl | rfl | rfl | rfl | rfl | rfl | rfl | rfl | rfl | rfl <;> rfl) (Nat.le_of_ble_eq_true rfl) (Nat.le_of_ble_eq_true rfl) dL_law_8 (fun _ => rfl) (fun a1 => ?_)
  refine a_dup (pc := 11) C dL_law_11 rfl ?_
  refine a_init (pc := 12) (W0 := dlW X q) C (fun sz => iX9_init X a1 sz) q_5_22 q_5_23 q_1_5 q_6_0 rfl hdX9_init ⟨Nat.le_of_ble_eq_true rfl, Nat.le_of_ble_eq_true rfl, rfl, rfl, Nat.le_of_ble_eq_true rfl, Nat.le_of_ble_eq_true rfl⟩ (Nat.le_of_ble_eq_true rfl) dL_law_12 rfl (fun w9 hw9 => ?_)
  obtain ⟨q2, e1, p1⟩ := hw9
  subst e1
  refine a_perm (ws' := dlW X q ++ moW X q2) (List.Perm.append_left _ p1) ?_
  refine a_astore_n (pc := 15) (i := 2) C dL_law_15 rfl (Nat.le_of_ble_eq_true rfl) rfl ?_
  refine a_iconst (pc := 16) (v := 1) C dL_law_16 (by decide) ?_
  refine a_newlong (pc := 17) (N := 1) (fun q3 => (dlW X q ++ moW X q2) ++ [(q3, (.inl (X.ac 2, 1, .inr (.inl (fun _ => 0))) : va_E))]) C q_1_6 (by decide) (by decide) (by decide) (Nat.le_of_ble_eq_true rfl) (Nat.le_of_ble_eq_true rfl) dL_law_17 (fun _ => rfl) (fun q3 => ?_)
  refine a_astore_n (pc := 19) (i := 3) C dL_law_19 rfl (Nat.le_of_ble_eq_true rfl) rfl ?_
  refine a_iconst (pc := 20) (v := 0) C dL_law_20 (by decide) ?_
  refine a_istore (pc := 21) (i := 4) C dL_law_21 (Nat.le_of_ble_eq_true rfl) rfl ?_
  intro H locs ls hP hD hS hl
  obtain ⟨X2, hX2⟩ : ∃ X2 : Xc, X2 = (l, D, (fun k => if k < 462 then q k else if k < 476 then q2 (k - 462) else q3), s.heap.size, ac) := ⟨_, rfl⟩
  have hperm : ((dlW X q ++ moW X q2) ++ [(q3, (.inl (X.ac 2, 1, .inr (.inl (fun _ => 0))) : va_E))]).Perm (wX X2 σ0) := by
    have h9 := e_all X2
    subst hXe
    subst hX2
    rw [List.append_assoc]
    exact h9
  have hDX : X2.D = X.D := by rw [hX2, hXe]
  have hz : X2.z = s.heap.size := by rw [hX2]
  have hP2 : va_P X2.D classes (wX X2 σ0) H := by rw [hDX]; exact va_P_perm hP hperm
  have hD2 := va_D_perm hD hperm
  have C2 : MC X2 K cL_law 7 RL room_1 := by
    have hok : OkX X2 SHP.length := okx_of hD2 (fun q h => by rw [hz]; exact h)
    subst hK
    refine ⟨⟨hx, hb, hml, hown, hwl⟩, by rw [hX2]; exact hKall _ _ _, hok, by rw [hz]; exact Nat.le_refl _, hlocks, rfl, hXK, ?_, ?_⟩
    · have := st_Zu hts hgs
      rw [hX2]
      exact this
    · have := st_Zn hts hgs
      rw [hX2]
      exact this
  have hLH : LH X2 K b L xs := by
    subst hK
    exact ⟨hX, hbl, hz, hr, rfl⟩
  have hfl2 : X2.l.stackTraces = false := by rw [hX2]; exact hfl
  have hG := bL_loop C2 hLH hfl2 n σ0 0 478 12815 (by have := hn.1; omega) (by have := hn.2; omega) true hgo H locs ls hP2 (by
    have e9 : X2.A = (fun q => s.heap.size ≤ q) := by funext q; show (X2.z ≤ q) = _; rw [hz]
    rw [e9]; exact hS) (by
    have e1 : X2.ad 0 = q 0 := by rw [hX2]; rfl
    have e2 : X2.ad 462 = q2 0 := by rw [hX2]; rfl
    have e3 : X2.ad 476 = q3 := by rw [hX2]; rfl
    rw [e1, e2, e3]
    exact hl)
  have hQ : lawQ K true = lw_Z below #[Value.ref b] s := by subst hK; rfl
  rw [hQ] at hG
  have hXl : X2.l = X.l := by rw [hX2, hXe]
  rw [hXl] at hG
  refine W.widen (k := 478) (n := 12815) (Nat.le_of_ble_eq_true rfl) (Nat.le_of_ble_eq_true rfl) ?_
  exact hG

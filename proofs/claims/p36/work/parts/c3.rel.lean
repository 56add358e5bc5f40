/-! THE RELATION holds of the fresh store -/
section RC3
theorem LO_nil {o : OD} {N : Nat} {m : Nat → Bool} (h : o.1 = 0) (z : ∀ i, i < N → m i = false) : LO o N m := by
  have c : cnt m N = 0 := cnt_zero.mpr z
  refine ⟨by rw [c, h]; rfl, fun k hk => absurd hk (by omega), fun x hx q => ?_, fun j k hj => absurd hj (by omega)⟩
  rw [z x hx] at q
  cases q
def V00 : VW := pv σ0 6
set_option maxRecDepth 100000 in
theorem v0_8 : ∀ n, n < 23 → V00 8 n = 3 := by decide +kernel
set_option maxRecDepth 100000 in
theorem v0_9 : ∀ n, n < 23 → V00 9 n = -1 := by decide +kernel
set_option maxRecDepth 100000 in
theorem v0_13 : ∀ n, n < 12 → V00 13 n = -1 ∧ V00 14 n = -1 ∧ V00 15 n = 0 := by decide +kernel
set_option maxRecDepth 100000 in
theorem v0_5 : ∀ n, n < 5 → V00 5 n = -1 ∧ V00 1 n = 0 ∧ V00 2 n = 0 ∧ V00 3 n = 120 ∧ V00 4 n = 60 := by decide +kernel
theorem v0_6 : V00 6 1 = 0 := by decide +kernel
theorem v0_inv : Inv V00 (fun _ => 0) (fun _ => 0) := by
  refine ⟨⟨fun n hn => ?_, fun n hn _ => v0_9 n hn, fun n hn q => absurd (v0_9 n hn) q, fun n hn q _ => absurd (v0_8 n hn) q, fun w hw => Or.inl (v0_5 w hw).1, fun s hs q => ?_, fun n hn q => absurd (v0_9 n hn) q⟩, ⟨fun p hp => Or.inl (v0_13 p hp).1, fun p hp _ => (v0_13 p hp).2, fun p hp => Or.inl (v0_13 p hp).2.2, fun g hg q => ?_⟩, LO_nil v0_6 (fun w hw => ?_), fun w hw => ?_⟩
  · rw [v0_8 n hn]
    omega
  · rw [v0_8 s hs] at q
    omega
  · rw [v0_8 g hg] at q
    omega
  · unfold flw
    rw [(v0_5 w hw).1]
    simp
  · obtain ⟨-, a, b, c, d⟩ := v0_5 w hw
    rw [a, b, c, d]
    omega
def S00 : ST := stv σ0 1
theorem s0_ex : S_ex S00 = 0 := by decide +kernel
theorem s0_sv : S_sv S00 = 0 := by decide +kernel
theorem s0_eb (p : Nat) : exB S00 p = false := by
  unfold exB
  rw [s0_ex]
  exact Nat.zero_testBit p
theorem s0_sb (p : Nat) : svB S00 p = false := by
  unfold svB
  rw [s0_sv]
  exact Nat.zero_testBit p
set_option maxRecDepth 100000 in
theorem s0_mw : ∀ p, p < 12 → S_mw S00 p = 0 ∧ S_mh S00 p = 0 := by decide +kernel
theorem s0_fo : (S_fo S00).1 = 0 := by decide +kernel
theorem s0_pl : S_pl S00 = V00 := rfl
theorem s0_SI : SI S00 := by
  refine ⟨by rw [s0_ex]; omega, by rw [s0_sv]; omega, fun p hp => ⟨?_, ?_, fun z => ?_⟩, fun p hp z => absurd (v0_13 p hp).1 z, ⟨_, _, v0_inv⟩, LO_nil s0_fo (fun i hi => ?_), fun s hs z => ?_⟩
  · rw [(s0_mw p hp).1]
    omega
  · rw [(s0_mw p hp).2]
    omega
  · rw [s0_eb] at z
    cases z
  · unfold plc
    rw [s0_pl, (v0_13 i hi).1]
    rfl
  · rw [s0_sb] at z
    cases z
set_option maxRecDepth 100000 in
theorem s0_q : ∀ n, n < 23 → qv σ0 1 n = 0 := by decide +kernel
theorem s0_PL : PL σ0 S00 := by
  refine ⟨⟨fun n hn q => ?_, fun n hn q => ?_, fun w n hw q => ?_, fun n hn q => ?_⟩, fun n hn _ => s0_q n hn⟩
  · rw [s0_pl, v0_8 n hn] at q
    omega
  · rw [s0_pl, v0_8 n hn] at q
    omega
  · rw [s0_pl, (v0_5 w hw).1] at q
    omega
  · rw [s0_pl, v0_8 n hn] at q
    omega
theorem s0_CR : CR σ0 S00 [] := ⟨rfl, ⟨0, by decide, by decide +kernel, by decide, by decide +kernel, fun k S h => by simp at h⟩, s0_SI, fun T h => absurd h List.not_mem_nil, s0_PL⟩
def U00 : VW := mv (σ0.1 463)
set_option maxRecDepth 100000 in
theorem u0_0 : ∀ n, n < 24 → U00 0 n = 0 := by decide +kernel
set_option maxRecDepth 100000 in
theorem u0_9 : ∀ n, n < 12 → U00 6 n = 0 ∧ U00 9 n = -1 ∧ U00 11 n = 0 := by decide +kernel
set_option maxRecDepth 100000 in
theorem u0_12 : ∀ n, n < 5 → U00 12 n = (if n = 0 then 1 else 0) ∧ U00 17 n = -1 := by decide +kernel
set_option maxRecDepth 100000 in
theorem u0_13 : U00 13 0 = 0 ∧ U00 14 0 = 0 ∧ U00 15 0 = 120 ∧ U00 16 0 = 60 ∧ U00 18 0 = 0 ∧ U00 20 0 = 0 ∧ U00 22 0 = 0 ∧ U00 23 0 = 0 ∧ U00 24 0 = 0 := by decide +kernel
theorem u0_VM : VM U00 V00 (fun _ => false) := by
  obtain ⟨a1, a2, a3, a4, a5, a6, -⟩ := u0_13
  refine ⟨fun n hn => ⟨fun _ => u0_0 n (by omega), fun q => ?_, fun q => ?_⟩, u0_0 23 (by omega), fun n hn q => absurd (v0_8 n hn) q, fun n hn q => absurd (v0_9 n hn) q, fun n hn q => ?_, fun p hp => ⟨?_, fun q => absurd (v0_13 p hp).1 q, ?_⟩, fun w hw => ⟨?_, ?_, fun q => ?_⟩, ?_, fun k q => ?_, fun n hn q => ?_⟩
  · rw [v0_8 n hn] at q
    omega
  · rw [v0_8 n hn] at q
    omega
  · rw [v0_8 n hn] at q
    omega
  · rw [(u0_9 p hp).2.1, (v0_13 p hp).1]
  · rw [(u0_9 p hp).2.2, (v0_13 p hp).2.2]
  · rw [(u0_12 w hw).1, (v0_5 w hw).1]
    simp
  · rw [(u0_12 w hw).2, (v0_5 w hw).1]
  · rw [(v0_5 w hw).1] at q
    have z : w = 0 := by
      rcases q with q | q
      · exact q
      · exact absurd rfl q
    obtain ⟨-, b1, b2, b3, b4⟩ := v0_5 w hw
    rw [b1, b2, b3, b4, z]
    exact ⟨a1, a2, a3, a4⟩
  · rw [a5, v0_6]
  · rw [v0_6] at q
    omega
  · rw [v0_8 n hn] at q
    omega
theorem s0_MR : MR σ0 S00 [] := by
  obtain ⟨a1, a2, a3, a4, a5, a6, a7, a8, a9⟩ := u0_13
  refine ⟨⟨by decide, by decide +kernel, fun k S h => by simp at h⟩, fun p hp => ⟨?_, fun z => ?_⟩, u0_VM, ⟨?_, fun k hk => ?_⟩, fun s hs => ⟨?_, fun z => ?_⟩⟩
  · rw [s0_eb, if_neg Bool.false_ne_true]
    exact (u0_9 p hp).1
  · rw [s0_eb] at z
    cases z
  · rw [s0_fo]
    exact a6
  · have e : (mo (mv (σ0.1 463)) 20).1 = 0 := a6
    rw [e] at hk
    omega
  · rw [s0_sb, if_neg Bool.false_ne_true]
    rcases (show s = 0 ∨ s = 1 ∨ s = 2 by omega) with rfl | rfl | rfl
    · exact a7
    · exact a8
    · exact a9
  · rw [s0_sb] at z
    cases z
theorem s0_RR : RR σ0 := ⟨S00, [], s0_CR, s0_MR, 0, by omega, by decide +kernel, by decide +kernel, fun i hi => absurd hi (by omega)⟩
end RC3

/-! THE RELATION: read (1): the main window is emptied -/
section RB6
variable {V : VW} {d : Nat → Nat} {wn : Nat → Int}
theorem odp_shift {s k x : Int} : odp (v_shift V s k x) = odp V := by
  have e : ∀ j, j ≠ 10 → v_shift V s k x j = V j := fun j hj => by
    funext i
    unfold v_shift
    rw [if_neg (fun z => hj z.1)]
  unfold odp
  rw [e 6 (by decide), e 7 (by decide)]
theorem odp_detach {n : Int} : odp (v_detach V n) = odp V := by
  unfold v_detach
  rw [odp_shift, odp_up (by decide) (by decide)]
theorem odp_free {n : Int} : odp (v_free V n) = odp V := by
  unfold v_free
  rw [odp_up (by decide) (by decide)]
theorem odp_repl {o f : Int} : odp (v_repl V o f) = odp V := by
  unfold v_repl
  by_cases z : ga (V 9) 23 o = -1
  · rw [if_pos z, odp_up (by decide) (by decide)]
  · rw [if_neg z, odp_up (by decide) (by decide), odp_up (by decide) (by decide), odp_up (by decide) (by decide), odp_up (by decide) (by decide)]
theorem odp_fin {g s : Int} : odp (v_fin V g s) = odp V := by
  unfold v_fin
  by_cases z : v_cc (v_free (v_detach V g) g) s = 1
  · rw [if_pos z, odp_free, odp_repl, odp_detach, odp_free, odp_detach]
  · rw [if_neg z, odp_free, odp_detach]
/-- a withdrawal from the main window leaves the floating ones -/
theorem odp_wd (h : Inv V d wn) {k g : Nat} (hk : k < 12) (e : V 13 k = g) (w0 : wn g = 0) : odp (v_withdraw V k) = odp V := by
  obtain ⟨hg, kg⟩ := h.2.1.g2 hk e
  have r : ∀ j, j ≠ 12 → j ≠ 13 → j ≠ 14 → j ≠ 15 → v_out V k j = V j := fun j => v_out_ne
  have T : Tree (v_out V k) d wn (fun _ => false) := h.1.cg (fun n _ => by rw [r 8 (by decide) (by decide) (by decide) (by decide)]) (fun n _ => by rw [r 9 (by decide) (by decide) (by decide) (by decide)]) (fun n _ => by rw [r 10 (by decide) (by decide) (by decide) (by decide)]) (fun n hn q => by rw [r 11 (by decide) (by decide) (by decide) (by decide)]; exact h.1.we hn q) (fun w _ => by rw [r 5 (by decide) (by decide) (by decide) (by decide)])
  have W : v_withdraw V k = if v_tc (v_out V k) g = 0 then v_remg (v_out V k) g else v_out V k := by
    unfold v_withdraw
    rw [ga_in hk, e, if_neg (by omega)]
  rw [W]
  by_cases z : v_tc (v_out V k) g = 0
  · rw [if_pos z]
    unfold v_remg
    have wo := T.wo hg (by rw [r 8 (by decide) (by decide) (by decide) (by decide)]; omega)
    by_cases y : ga (v_out V k 9) 23 (g : Int) = -1
    · have lo := h.2.2.1.lv_no (x := 0) (by unfold flw; rfl)
      rw [if_pos y, odp_fin, v_od_odp, wo, w0, odp_out]
      exact lo
    · rw [if_neg y, odp_fin, odp_out]
  · rw [if_neg z, odp_out]
def OW (V W : VW) (wn : Nat → Int) (k : Nat) : Prop :=
  (∀ n, n < 23 → V 8 n = 3 → W 8 n = 3) ∧
  (∀ n, n < 23 → V 8 n ≠ 3 → wn n ≠ 0 → W 8 n = V 8 n ∧ W 9 n = V 9 n ∧ (V 9 n ≠ -1 → W 10 n = V 10 n ∧ W 11 n = V 11 n) ∧ W 12 n = V 12 n) ∧
  (∀ i, i < 12 → W 15 i = if i < k ∧ own V i = true then 0 else V 15 i) ∧
  (∀ i, i < 12 → own V i = false → W 14 i = V 14 i) ∧
  (∀ w, w < 5 → w ≠ 0 → W 5 w = V 5 w) ∧
  W 1 = V 1 ∧ W 2 = V 2 ∧ W 3 = V 3 ∧ W 4 = V 4 ∧ odp W = odp V
theorem own_k (h : Inv V d wn) {i g : Nat} (hi : i < 12) (e : V 13 i = g) : own V i = decide (wn g = 0) := by
  unfold own
  rw [h.wo hi e]
theorem own_g (h : Inv V d wn) {i : Nat} (hi : i < 12) (o : own V i = true) : ∃ g : Nat, g < 23 ∧ V 13 i = g ∧ V 8 g = 2 ∧ wn g = 0 := by
  rcases h.2.1.gr hi with z | ⟨g, a, b, c⟩
  · unfold own at o
    rw [z, v_wo_m1] at o
    exact absurd o (by decide)
  · rw [own_k h hi b] at o
    exact ⟨g, a, b, c, of_decide_eq_true o⟩
theorem wds_own (h : Inv V d wn) : ∀ k, k ≤ 12 → OW V (wds (own V) V k) wn k
  | 0, _ => ⟨fun _ _ z => z, fun _ _ _ _ => ⟨rfl, rfl, fun _ => ⟨rfl, rfl⟩, rfl⟩, fun i _ => by rw [if_neg (by omega)]; rfl, fun _ _ _ => rfl, fun _ _ _ => rfl, rfl, rfl, rfl, rfl, rfl⟩
  | k + 1, hk => by
    obtain ⟨b1, b2, b3, b4, b5, b6, b7, b8, b9, b10⟩ := wds_own h k (by omega)
    obtain ⟨I, r13⟩ := wds_inv (c := own V) h k (by omega)
    unfold wds
    by_cases q : own V k = true
    · obtain ⟨g, g1, g2, g3, g4⟩ := own_g h (i := k) (by omega) q
      have e13 : wds (own V) V k 13 k = g := by rw [r13 k (by omega), if_neg (by omega)]; exact g2
      obtain ⟨I2, c1, c2, c3, c4, c5, c6, c7, c8, c9, c10, c11⟩ := withdraw_ok I (p := k) (by omega)
      have one : ∀ g' : Nat, wds (own V) V k 13 k = g' → g' = g := fun g' z => by omega
      rw [if_pos q]
      refine ⟨fun n hn z => c4 n hn (b1 n hn z), fun n hn z w => ?_, fun i hi => ?_, fun i hi o => ?_, fun w hw w0 => ?_, c8.trans b6, c9.trans b7, c10.trans b8, c11.trans b9, (odp_wd I (by omega) e13 g4).trans b10⟩
      · obtain ⟨a1, a2, a3, a4⟩ := b2 n hn z w
        obtain ⟨f1, f2, f3, f4⟩ := c5 n hn (by rw [a1]; exact z) (fun g' y => by rw [one g' y, g4]; exact w)
        exact ⟨f1.trans a1, f2.trans a2, fun y => ⟨(f3 (by rw [a2]; exact y)).1.trans (a3 y).1, (f3 (by rw [a2]; exact y)).2.trans (a3 y).2⟩, f4.trans a4⟩
      · rw [c2 i hi, b3 i hi]
        by_cases y : i = k
        · rw [if_pos y, if_pos ⟨by omega, by rw [y]; exact q⟩]
        · rw [if_neg y]
          by_cases x : i < k ∧ own V i = true
          · rw [if_pos x, if_pos ⟨by omega, x.2⟩]
          · rw [if_neg x, if_neg (fun u => x ⟨by omega, u.2⟩)]
      · have ne : i ≠ k := fun z => by rw [z, q] at o; cases o
        rw [c6 i hi ne (fun g' y z => by
          rw [one g' y, r13 i hi, if_neg (fun u => by rw [o] at u; exact absurd u.2 Bool.false_ne_true)] at z
          rw [own_k h hi z, g4] at o
          exact absurd o (by decide))]
        exact b4 i hi o
      · rw [c7 w hw (fun g' y => by rw [one g' y, g4]; omega)]
        exact b5 w hw w0
    · rw [if_neg q]
      refine ⟨b1, b2, fun i hi => ?_, b4, b5, b6, b7, b8, b9, b10⟩
      rw [b3 i hi]
      by_cases x : i < k ∧ own V i = true
      · rw [if_pos x, if_pos ⟨by omega, x.2⟩]
      · rw [if_neg x, if_neg (fun u => x ⟨by
          have : i ≠ k := fun y => q (by rw [← y]; exact u.2)
          omega, u.2⟩)]
/-- what is left when the main window is empty -/
theorem emp_root (h : Inv V d wn) : wds (own V) V 12 5 0 = -1 := by
  obtain ⟨I, r13⟩ := wds_inv (c := own V) h 12 (Nat.le_refl _)
  refine Classical.byContradiction (fun z => ?_)
  obtain ⟨i, g, i1, i2, i3, i4, i5⟩ := I.pane (w := 0) (by omega) z
  rw [r13 i i1] at i3
  by_cases o : own V i = true
  · rw [if_pos ⟨i1, o⟩] at i3
    omega
  · rw [if_neg (fun y => o y.2)] at i3
    exact o (by rw [own_k h i1 i3, i5]; rfl)
theorem emp_wn (h : Inv V d wn) {n : Nat} (hn : n < 23) (u : wds (own V) V 12 8 n ≠ 3) : wn n ≠ 0 := by
  obtain ⟨I, -⟩ := wds_inv (c := own V) h 12 (Nat.le_refl _)
  obtain ⟨w, w1, w2, w3⟩ := I.1.wr5 hn u
  intro z
  have : w = 0 := by omega
  rw [this] at w3
  exact w3 (emp_root h)
theorem emp_8 (h : Inv V d wn) {n : Nat} (hn : n < 23) : wds (own V) V 12 8 n = if wn n = 0 then 3 else V 8 n := by
  obtain ⟨b1, b2, -⟩ := wds_own h 12 (Nat.le_refl _)
  by_cases z : wn n = 0
  · rw [if_pos z]
    exact Classical.byContradiction (fun u => emp_wn h hn u z)
  · rw [if_neg z]
    by_cases y : V 8 n = 3
    · rw [y]; exact b1 n hn y
    · exact (b2 n hn y z).1
/-- the reference's rows after its clearing -/
theorem emp_VM {U U' : VW} (h : Inv V d wn) (vm : VM U V (fun _ => false)) (u0 : ∀ n, n < 23 → U' 0 n = if V 8 n ≠ 3 ∧ wn n = 0 then 0 else U 0 n) (u23 : U' 0 23 = 0) (uj : ∀ j, (1 ≤ j ∧ j < 5) ∨ (12 ≤ j ∧ j < 17) ∨ (18 ≤ j ∧ j < 20) → U' j = U j) (u5 : ∀ n, n < 23 → V 8 n ≠ 3 → wn n ≠ 0 → U' 5 n = U 5 n) (u9 : ∀ p, p < 12 → U' 9 p = if own V p = true then -1 else U 9 p) (u10 : ∀ p, p < 12 → own V p = false → U' 10 p = U 10 p) (u11 : ∀ p, p < 12 → U' 11 p = if own V p = true then 0 else U 11 p) (u17 : ∀ w, w < 5 → U' 17 w = if w = 0 then -1 else U 17 w) : VM U' (wds (own V) V 12) (fun _ => false) := by
  obtain ⟨I, r13⟩ := wds_inv (c := own V) h 12 (Nat.le_refl _)
  obtain ⟨b1, b2, b3, b4, b5, b6, b7, b8, b9, b10⟩ := wds_own h 12 (Nat.le_refl _)
  have e8 := fun n hn => emp_8 h (n := n) hn
  have back : ∀ n, n < 23 → wds (own V) V 12 8 n ≠ 3 → V 8 n ≠ 3 ∧ wn n ≠ 0 := fun n hn u => ⟨fun z => u (b1 n hn z), emp_wn h hn u⟩
  have f6 : wds (own V) V 12 6 1 = V 6 1 := congrArg Prod.fst b10
  have f7 : wds (own V) V 12 7 = V 7 := congrArg Prod.snd b10
  refine ⟨fun n hn => ?_, u23, fun n hn q => ?_, fun n hn q => ?_, fun n hn q _ => ?_, fun p hp => ⟨?_, fun q => ?_, ?_⟩, fun w hw => ⟨?_, ?_, fun q => ?_⟩, ?_, fun k hk => ?_, fun n hn q => ?_⟩
  · rw [e8 n hn, u0 n hn, uj 2 (by omega)]
    by_cases z : wn n = 0
    · rw [if_pos z]
      refine ⟨fun _ => ?_, fun y => absurd y (by decide), fun y => absurd y (by decide)⟩
      by_cases y : V 8 n = 3
      · rw [if_neg (fun x => x.1 y)]
        exact vm.k3 hn y
      · rw [if_pos ⟨y, z⟩]
    · rw [if_neg z, if_neg (fun x => z x.2)]
      exact vm.1 n hn
  · obtain ⟨a1, a2⟩ := back n hn q
    rw [uj 1 (by omega), (b2 n hn a1 a2).2.1]
    exact vm.pa hn a1
  · obtain ⟨a1, a2⟩ := back n hn (I.1.us hn q)
    have r := b2 n hn a1 a2
    rw [r.2.1] at q
    rw [uj 3 (by omega), uj 4 (by omega), (r.2.2.1 q).1, (r.2.2.1 q).2]
    exact ⟨vm.we hn q, vm.pl hn q⟩
  · obtain ⟨a1, a2⟩ := back n hn (by omega)
    have r := b2 n hn a1 a2
    rw [u5 n hn a1 a2, r.2.2.2]
    exact vm.ac hn (by rw [← r.1]; exact q) rfl
  · rw [u9 p hp, r13 p hp]
    by_cases o : own V p = true
    · rw [if_pos o, if_pos ⟨hp, o⟩]
    · rw [if_neg o, if_neg (fun y => o y.2)]
      exact vm.gr hp
  · rw [r13 p hp] at q
    by_cases o : own V p = true
    · rw [if_pos ⟨hp, o⟩] at q
      exact absurd rfl q
    · rw [if_neg (fun y => o y.2)] at q
      rw [u10 p hp (Bool.eq_false_iff.mpr o), b4 p hp (Bool.eq_false_iff.mpr o)]
      exact vm.sp hp q
  · rw [u11 p hp, b3 p hp]
    by_cases o : own V p = true
    · rw [if_pos o, if_pos ⟨hp, o⟩]
    · rw [if_neg o, if_neg (fun y => o y.2)]
      exact vm.hi hp
  · rw [uj 12 (by omega), vm.ex hw]
    by_cases z : w = 0
    · rw [if_pos (Or.inl z), if_pos (Or.inl z)]
    · rw [b5 w hw z]
  · rw [u17 w hw]
    by_cases z : w = 0
    · rw [if_pos z, z]
      exact (emp_root h).symm
    · rw [if_neg z, b5 w hw z]
      exact vm.ro hw
  · rw [uj 13 (by omega), uj 14 (by omega), uj 15 (by omega), uj 16 (by omega), b6, b7, b8, b9]
    refine vm.geo hw ?_
    by_cases z : w = 0
    · exact Or.inl z
    · rw [b5 w hw z] at q
      exact q
  · rw [uj 18 (by omega), f6]
    exact vm.fc
  · rw [f6] at hk
    rw [uj 19 (by omega), f7]
    exact vm.fi hk
  · obtain ⟨a1, a2⟩ := back n hn (by omega)
    have r := b2 n hn a1 a2
    rw [u5 n hn a1 a2]
    exact vm.a5 hn (by rw [← r.1]; exact q)
end RB6

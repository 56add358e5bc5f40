/-! THE RELATION: panes are placed -/
theorem Tabs.newg {V V' : VW} (h : Tabs V (fun _ => false)) {f : Nat} (hf : V 8 f = 3) (h8 : ∀ g, g < 23 → (V' 8 g = 2 ↔ g = f ∨ V 8 g = 2)) (h12 : V' 12 = V 12) (h13 : V' 13 = V 13) (h14 : V' 14 = V 14) (h15 : V' 15 = V 15) : Tabs V' (fun k => k == f) := by
  refine ⟨fun p hp => ?_, fun p hp q => ?_, fun p hp => by rw [h15]; exact h.hi hp, fun g hg q => ?_⟩
  · rw [h13]
    rcases h.gr hp with a | ⟨g, a, b, c⟩
    · exact Or.inl a
    · exact Or.inr ⟨g, a, b, (h8 g a).mpr (Or.inr c)⟩
  · rw [h13] at q
    rw [h14, h15]
    exact h.no hp q
  · rw [h13, h14]
    by_cases e : g = f
    · have z := Nmb.emp (N := 12) (m := fun p => decide (V 13 p = (g : Int))) (p := V 14) (fun p hp => by
        rw [decide_eq_false_iff_not]
        intro y
        have := (h.g2 hp y).2
        rw [e] at this
        omega)
      exact ⟨z.1, fun x => by simp [e] at x⟩
    · have k2 : V 8 g = 2 := ((h8 g hg).mp q).resolve_left e
      refine ⟨h.nu hg k2, fun _ => ?_⟩
      obtain ⟨a, b⟩ := h.fu hg k2 rfl
      refine ⟨a, ?_⟩
      unfold Act at b ⊢
      rw [h12, h13, h15]
      exact b
theorem inv_tab {V : VW} {d : Nat → Nat} {wn : Nat → Int} (h : Inv V d wn) {p g : Nat} (hp : p < 12) (hu : V 13 p = -1) (hg : g < 23) (hk : V 8 g = 2) : Inv (v_join V p g) d wn := by
  obtain ⟨r13, r14, r12, rj⟩ := join_rows (V := V) hp hg
  obtain ⟨h1, h2, h3, h4⟩ := h
  refine ⟨h1.cg (fun n _ => by rw [rj 8 (by decide) (by decide) (by decide)]) (fun n _ => by rw [rj 9 (by decide) (by decide) (by decide)]) (fun n _ => by rw [rj 10 (by decide) (by decide) (by decide)]) (fun n hn q => by rw [rj 11 (by decide) (by decide) (by decide)]; exact h1.we hn q) (fun n _ => by rw [rj 5 (by decide) (by decide) (by decide)]), join_tabs h2 hp hu hg hk (fun _ _ => rfl), ?_, h4.cg (rj 1 (by decide) (by decide) (by decide)) (rj 2 (by decide) (by decide) (by decide)) (rj 3 (by decide) (by decide) (by decide)) (rj 4 (by decide) (by decide) (by decide))⟩
  have e : odp (v_join V p g) = odp V := by
    unfold odp
    rw [rj 6 (by decide) (by decide) (by decide), rj 7 (by decide) (by decide) (by decide)]
  rw [e]
  exact h3.cg (fun i _ => by unfold flw; rw [rj 5 (by decide) (by decide) (by decide)])
theorem inv_bes {V : VW} {d : Nat → Nat} {wn : Nat → Int} (h : Inv V d wn) {p t f m : Nat} (hp : p < 12) (hu : V 13 p = -1) (ht : t < 23) (k2 : V 8 t = 2) (tw : Two V f m) (side : Int) : ∃ d' wn', Inv (v_join (v_bes V t side) p f) d' wn' ∧ wn' f = wn t ∧ (∀ n, n < 23 → V 8 n ≠ 3 → v_bes V t side 8 n = V 8 n ∧ wn' n = wn n) ∧ Tree (v_bes V t side) d' wn' (fun _ => false) ∧ (v_bes V t side) 8 f = 2 ∧ (v_bes V t side) 13 = V 13 ∧ (v_bes V t side) 15 = V 15 ∧ Tabs (v_bes V t side) (fun k => k == f) := by
  obtain ⟨f1, f2, f3, f4, m1, m2, m3, m4, m5⟩ := tw
  obtain ⟨h1, h2, h3, h4⟩ := h
  have key : ∃ d' wn', Tree (v_bes V t side) d' wn' (fun _ => false) ∧ Bes V (v_bes V t side) t f wn wn' := by
    unfold v_bes
    rw [ga_in ht, f4]
    by_cases r : V 9 t = -1
    · rw [if_pos r]
      obtain ⟨d', wn', T, B, _⟩ := bes2_ok h1 ht k2 f1 f2 m1 m2 m3 side m5
      exact ⟨d', wn', T, B⟩
    · rw [if_neg r]
      obtain ⟨s, s1, s2, s3, _, _⟩ := h1.pa ht r
      split
      · obtain ⟨d', wn', T, B, _⟩ := bes1_ok h1 ht k2 f1 f2 s2 side
        exact ⟨d', wn', T, B⟩
      · obtain ⟨d', wn', T, B, _⟩ := bes2_ok h1 ht k2 f1 f2 m1 m2 m3 side m5
        exact ⟨d', wn', T, B⟩
  obtain ⟨d', wn', T, b8, _, bw, bo, bg, b5, bj⟩ := key
  obtain ⟨r13, r14, r12, rj⟩ := join_rows (V := v_bes V t side) hp f1
  have r5 := rj 5 (by decide) (by decide) (by decide)
  have T2 := h2.newg f2 (V' := v_bes V t side) (fun g hg => ⟨fun q => bg g hg q, fun q => by
    rcases q with q | q
    · rw [q]; exact b8
    · rw [(bo g hg (by omega)).1]; exact q⟩) (bj 12 (by decide) (by decide) (by decide) (by decide) (by decide)) (bj 13 (by decide) (by decide) (by decide) (by decide) (by decide)) (bj 14 (by decide) (by decide) (by decide) (by decide) (by decide)) (bj 15 (by decide) (by decide) (by decide) (by decide) (by decide))
  have J := join_tabs T2 hp (by rw [bj 13 (by decide) (by decide) (by decide) (by decide) (by decide)]; exact hu) f1 b8 (X' := fun _ => false) (fun k hk => by simp [hk])
  refine ⟨d', wn', ⟨T.cg (fun n _ => by rw [rj 8 (by decide) (by decide) (by decide)]) (fun n _ => by rw [rj 9 (by decide) (by decide) (by decide)]) (fun n _ => by rw [rj 10 (by decide) (by decide) (by decide)]) (fun n hn q => by rw [rj 11 (by decide) (by decide) (by decide)]; exact T.we hn q) (fun n _ => by rw [r5]), J, ?_, ?_⟩, bw, bo, T, b8, bj 13 (by decide) (by decide) (by decide) (by decide) (by decide), bj 15 (by decide) (by decide) (by decide) (by decide) (by decide), T2⟩
  · have e : odp (v_join (v_bes V t side) p f) = odp V := by
      unfold odp
      rw [rj 6 (by decide) (by decide) (by decide), rj 7 (by decide) (by decide) (by decide), bj 6 (by decide) (by decide) (by decide) (by decide) (by decide), bj 7 (by decide) (by decide) (by decide) (by decide) (by decide)]
    rw [e]
    refine h3.cg (fun i hi => ?_)
    unfold flw
    rw [r5]
    by_cases z : V 5 i = -1
    · rw [(b5 i hi).mpr z, z]
    · have : ¬ v_bes V t side 5 i = -1 := fun y => z ((b5 i hi).mp y)
      simp [z, this]
  · refine (h4.cg (V' := v_bes V t side) (bj 1 (by decide) (by decide) (by decide) (by decide) (by decide)) (bj 2 (by decide) (by decide) (by decide) (by decide) (by decide)) (bj 3 (by decide) (by decide) (by decide) (by decide) (by decide)) (bj 4 (by decide) (by decide) (by decide) (by decide) (by decide))).cg (rj 1 (by decide) (by decide) (by decide)) (rj 2 (by decide) (by decide) (by decide)) (rj 3 (by decide) (by decide) (by decide)) (rj 4 (by decide) (by decide) (by decide))
/-- what a new root group leaves -/
def Roo (V V' : VW) (f w : Nat) : Prop := (∀ i, i < 23 → V' 8 i = if i = f then 2 else V 8 i) ∧ (∀ i, i < 5 → V' 5 i = if i = w then (f : Int) else V 5 i) ∧ (∀ j, 9 ≤ j → V' j = V j)
theorem roo_ok {V V' : VW} {d : Nat → Nat} {wn : Nat → Int} (h1 : Tree V d wn (fun _ => false)) (h2 : Tabs V (fun _ => false)) {f w : Nat} (hf : f < 23) (hk : V 8 f = 3) (hw : w < 5) (hr : V 5 w = -1) (h : Roo V V' f w) : Tree V' d (fun n => if n = f then (w : Int) else wn n) (fun _ => false) ∧ Tabs V' (fun k => k == f) := by
  obtain ⟨r8, r5, rj⟩ := h
  refine ⟨h1.root (c := 2) hf hk (by omega) hw hr r8 (fun i _ => by rw [rj 9 (by decide)]) (fun i _ _ => by rw [rj 10 (by decide)]) (fun i _ _ => by rw [rj 11 (by decide)]) r5 (fun z => absurd z (by decide)) (fun _ _ => rfl), h2.newg hk (fun g hg => ?_) (rj 12 (by decide)) (rj 13 (by decide)) (rj 14 (by decide)) (rj 15 (by decide))⟩
  rw [r8 g hg]
  by_cases z : g = f
  · rw [if_pos z]
    exact ⟨fun _ => Or.inl z, fun _ => rfl⟩
  · rw [if_neg z]
    exact ⟨Or.inr, fun y => y.resolve_left z⟩
theorem inv_root {V V' : VW} {d : Nat → Nat} {wn : Nat → Int} (h : Inv V d wn) {p f w : Nat} (hp : p < 12) (hu : V 13 p = -1) (hf : f < 23) (hk : V 8 f = 3) (hw : w < 5) (hr : V 5 w = -1) (hR : Roo V V' f w) (ho : LO (odp V') 5 (flw V')) (hg : Geo V') : Inv (v_join V' p f) d (fun n => if n = f then (w : Int) else wn n) := by
  obtain ⟨h1, h2, h3, h4⟩ := h
  obtain ⟨T, T2⟩ := roo_ok h1 h2 hf hk hw hr hR
  obtain ⟨r8, r5, r'⟩ := hR
  obtain ⟨r13, r14, r12, rj⟩ := join_rows (V := V') hp hf
  have b8 : V' 8 f = 2 := by rw [r8 f hf, if_pos rfl]
  have J := join_tabs T2 hp (by rw [r' 13 (by decide)]; exact hu) hf b8 (X' := fun _ => false) (fun k hk => by simp [hk])
  refine ⟨T.cg (fun n _ => by rw [rj 8 (by decide) (by decide) (by decide)]) (fun n _ => by rw [rj 9 (by decide) (by decide) (by decide)]) (fun n _ => by rw [rj 10 (by decide) (by decide) (by decide)]) (fun n hn q => by rw [rj 11 (by decide) (by decide) (by decide)]; exact T.we hn q) (fun n _ => by rw [rj 5 (by decide) (by decide) (by decide)]), J, ?_, hg.cg (rj 1 (by decide) (by decide) (by decide)) (rj 2 (by decide) (by decide) (by decide)) (rj 3 (by decide) (by decide) (by decide)) (rj 4 (by decide) (by decide) (by decide))⟩
  have e : odp (v_join V' p f) = odp V' := by
    unfold odp
    rw [rj 6 (by decide) (by decide) (by decide), rj 7 (by decide) (by decide) (by decide)]
  rw [e]
  exact ho.cg (fun i _ => by unfold flw; rw [rj 5 (by decide) (by decide) (by decide)])
section MRO
variable {σ : Sg} {V V' : VW} {d : Nat → Nat} {wn : Nat → Int}
/-- a root is made and the pane settles there; of the windows' row is known what it is to tell -/
theorem m_roots {U : VW} (h : VM U V (fun _ => false)) (t0 : Tree V d wn (fun _ => false)) {f w p : Nat} (hf : f < 23) (hk : V 8 f = 3) (hl : ∀ k, k < f → V 8 k ≠ 3) (hw : w < 5) (hR : Roo V V' f w) (hU : ∀ j, j < 12 ∨ j = 17 → mv (σ.1 463) j = U j) (h12 : ∀ v, v < 5 → mv (σ.1 463) 12 v = if v = 0 ∨ V' 5 v ≠ -1 then 1 else 0) (hG : ∀ v, v < 5 → v = 0 ∨ V' 5 v ≠ -1 → mv (σ.1 463) 13 v = V' 1 v ∧ mv (σ.1 463) 14 v = V' 2 v ∧ mv (σ.1 463) 15 v = V' 3 v ∧ mv (σ.1 463) 16 v = V' 4 v) (hO : OE (mo (mv (σ.1 463)) 18) (odp V')) {a b : Int32} (ha : a.toInt = p) (hp : p < 12) (hb : b.toInt = w) (hu : V 13 p = -1) (hh : V 15 p = 0) {o : OD} (ho : OE (mo (mv (σ.1 463)) 20) o) (ok : OkO o) (ol : (o_lv o p).1 < 12) : ∃ σ', fX9_roots σ 462 a b = some σ' ∧ Out σ σ' 463 463 ∧ VM (mv (σ'.1 463)) (v_join V' p f) (fun _ => false) ∧ OE (mo (mv (σ'.1 463)) 20) (o_pf o p) ∧ FS (mv (σ.1 463)) (mv (σ'.1 463)) := by
  obtain ⟨r8, r5, rj⟩ := hR
  have ef : (oI (f : Int)).toInt = f := j_oI (by omega) (by omega)
  obtain ⟨σ1, a1, o1, v1⟩ := m_newNode (σ := σ) (n0 := f) (by omega) (by rw [hU 0 (by decide)]; exact h.k3 hf hk) (fun i hi z => by
    rw [hU 0 (by decide)] at z
    exact hl i hi ((h.k0 (by omega) (t0.ki (by omega))).mp z)) 2
  have v1 : mv (σ1.1 463) = nn (mv (σ.1 463)) f 2 := v1
  obtain ⟨n0, n1, n2, n3, n4, n5, nj⟩ := nn_rows (U := mv (σ.1 463)) (n := f) (k := 2)
  obtain ⟨σ2, a2, o2, v2⟩ := m_s5 (σ := σ1) hb hw (oI (f : Int))
  rw [v1, ef] at v2
  have ww : ∀ j, 6 ≤ j → j ≠ 17 → mv (σ2.1 463) j = mv (σ.1 463) j := fun j h6 h17 => by rw [v2, mu_ne h17, nj j h6]
  have y17 : ∀ v, mv (σ2.1 463) 17 v = if v = w then (f : Int) else U 17 v := fun v => by
    rw [v2, mu_at, nj 17 (by decide), hU 17 (Or.inr rfl)]
  have lo6 : ∀ j, j < 6 → mv (σ2.1 463) j = nn (mv (σ.1 463)) f 2 j := fun j hj => by rw [v2, mu_ne (by omega)]
  have f9 := t0.fr hf hk
  have M2 : VM (mv (σ2.1 463)) V' (fun k => k == f) := by
    refine ⟨fun n hn => ?_, ?_, fun n hn q => ?_, fun n hn q => ?_, fun n hn q x => ?_, fun i hi => ?_, fun v hv => ?_, ?_, ?_, fun n hn q => by
      rw [r8 n hn] at q
      have z : n ≠ f := fun z => by rw [if_pos z] at q; omega
      rw [if_neg z] at q
      rw [lo6 5 (by decide), n5 n, if_neg z, hU 5 (by decide)]
      exact h.a5 hn q⟩
    · rw [r8 n hn, lo6 0 (by decide), lo6 2 (by decide), n0 n, n2 n, hU 0 (by decide), hU 2 (by decide)]
      by_cases z2 : n = f
      · rw [if_pos z2, if_pos z2, if_pos z2]
        exact ⟨fun y => by omega, fun _ => rfl, fun y => by omega⟩
      · rw [if_neg z2, if_neg z2, if_neg z2]
        exact h.1 n hn
    · rw [lo6 0 (by decide), n0 23, if_neg (by omega), hU 0 (by decide)]
      exact h.l
    · rw [r8 n hn] at q
      rw [lo6 1 (by decide), n1 n, hU 1 (by decide), rj 9 (by decide)]
      by_cases z : n = f
      · rw [if_pos z, z, f9]
      · rw [if_neg z]
        rw [if_neg z] at q
        exact h.pa hn q
    · rw [rj 9 (by decide)] at q
      have z : n ≠ f := fun z => by rw [z] at q; exact q f9
      rw [lo6 3 (by decide), lo6 4 (by decide), n3 n, n4 n, if_neg z, if_neg z, hU 3 (by decide), hU 4 (by decide), rj 10 (by decide), rj 11 (by decide)]
      exact ⟨h.we hn q, h.pl hn q⟩
    · have z : n ≠ f := by simpa using x
      rw [r8 n hn, if_neg z] at q
      rw [lo6 5 (by decide), n5 n, if_neg z, hU 5 (by decide), rj 12 (by decide)]
      exact h.ac hn q rfl
    · rw [ww 9 (by decide) (by decide), ww 10 (by decide) (by decide), ww 11 (by decide) (by decide), hU 9 (by decide), hU 10 (by decide), hU 11 (by decide), rj 13 (by decide), rj 14 (by decide), rj 15 (by decide)]
      exact ⟨h.gr hi, h.sp hi, h.hi hi⟩
    · rw [ww 12 (by decide) (by decide), y17 v, ww 13 (by decide) (by decide), ww 14 (by decide) (by decide), ww 15 (by decide) (by decide), ww 16 (by decide) (by decide)]
      refine ⟨h12 v hv, ?_, hG v hv⟩
      rw [r5 v hv]
      by_cases z : v = w
      · rw [if_pos z, if_pos z]
      · rw [if_neg z, if_neg z, h.ro hv]
    · rw [ww 18 (by decide) (by decide)]
      exact hO.1
    · rw [ww 19 (by decide) (by decide)]
      exact fun k hk => hO.2 k (by rw [hO.1]; exact hk)
  have m20 : mo (mv (σ2.1 463)) 20 = mo (mv (σ.1 463)) 20 := by
    unfold mo
    rw [ww 20 (by decide) (by decide), ww 21 (by decide) (by decide)]
  obtain ⟨σ3, a3, o3, M3, E3, F3⟩ := m_settles M2 ha hp ef hf (by rw [r8 f hf, if_pos rfl]) (by rw [rj 13 (by decide)]; exact hu) (by rw [rj 15 (by decide)]; exact hh) (by rw [m20]; exact ho) ok ol
  unfold fX9_roots
  rw [a1, j_b]
  dsimp only
  rw [a2, j_b, a3, j_b]
  exact ⟨σ3, rfl, (o1.tr o2).tr o3, M3.fx (fun n _ _ _ => by simp), E3, FS.tr (fun j hj => ww j (by omega) (by omega)) F3⟩
end MRO

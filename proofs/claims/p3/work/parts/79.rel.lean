/-! THE RELATION: new groups in the reference (3) -/
section MBF
variable {σ : Sg} {V : VW} {d : Nat → Nat} {wn : Nat → Int}
theorem m_bes65 (h : VM (mv (σ.1 463)) V (fun _ => false)) (t0 : Tree V d wn (fun _ => false)) {t f s : Nat} (ht : t < 23) (k2 : V 8 t = 2) (hf : f < 23) (hkf : V 8 f = 3) (hs : V 9 t = s) (side : Int32) {σ1 : Sg} (o1 : Out σ σ1 463 463) (v1 : mv (σ1.1 463) = nn (mv (σ.1 463)) f 2) {l4 : Int32} (e4 : l4.toInt = v_beh side.toInt) : ∃ σ', (fX9_its σ1 462 (oI (t : Int)) 3).bind (fun r6 => if (r6 / 2) ≤ 1 then (fX9_beside_65 462 σ1 (oI (t : Int)) l4 (oI (s : Int)) (oI (f : Int)) r6 1) else (fX9_beside_65 462 σ1 (oI (t : Int)) l4 (oI (s : Int)) (oI (f : Int)) r6 (r6 / 2))) = some (oI (f : Int), σ') ∧ Out σ σ' 463 463 ∧ VM (mv (σ'.1 463)) (v_bes1 V t side.toInt f (up V 8 f 2)) (fun k => k == f) ∧ FR (mv (σ.1 463)) (mv (σ'.1 463)) := by
  obtain ⟨d', wn', T, B, c8, c9, c10, c11, c5⟩ := bes1_ok t0 ht k2 hf hkf hs side.toInt
  obtain ⟨-, -, -, -, -, -, bj⟩ := B
  obtain ⟨s1, s2, s3, s4⟩ := t0.par ht hs
  have ntf : t ≠ f := fun z => by rw [z] at k2; omega
  have nsf : s ≠ f := fun z => by rw [z] at s2; omega
  have f9 := t0.fr hf hkf
  have bb := beh_rg side.toInt
  obtain ⟨w1, w2⟩ := t0.we ht (by omega)
  obtain ⟨nu, -⟩ := t0.sp s1 s2
  have pt := nu.1 t ht (by simp [hs])
  have c23 := cnt_le (fun n => decide (V 9 n = (s : Int))) 23
  have et : (oI (t : Int)).toInt = t := j_oI (by omega) (by omega)
  have ef : (oI (f : Int)).toInt = f := j_oI (by omega) (by omega)
  have es : (oI (s : Int)).toInt = s := j_oI (by omega) (by omega)
  obtain ⟨n0, n1, n2, n3, n4, n5, nj⟩ := nn_rows (U := mv (σ.1 463)) (n := f) (k := 2)
  have x3 : mv (σ1.1 463) 3 t = V 11 t := by rw [v1, n3 t, if_neg ntf, h.we ht (by omega)]
  have x4 : mv (σ1.1 463) 4 t = V 10 t := by rw [v1, n4 t, if_neg ntf, h.pl ht (by omega)]
  rw [m_i3 et (by omega), j_b, x3]
  have ew : (oI (V 11 t)).toInt = V 11 t := j_oI (by omega) (by omega)
  have dv : (oI (V 11 t) / 2).toInt = V 11 t / 2 := by
    rw [wr_div2, ew, Int.tdiv_eq_ediv_of_nonneg (by omega), wr_id (by omega) (by omega)]
  have main : ∀ hf2 : Int32, hf2.toInt = max 1 (V 11 t / 2) → ∃ σ', fX9_beside_65 462 σ1 (oI (t : Int)) l4 (oI (s : Int)) (oI (f : Int)) (oI (V 11 t)) hf2 = some (oI (f : Int), σ') ∧ Out σ σ' 463 463 ∧ VM (mv (σ'.1 463)) (v_bes1 V t side.toInt f (up V 8 f 2)) (fun k => k == f) ∧ FR (mv (σ.1 463)) (mv (σ'.1 463)) := by
    intro hf2 eh
    unfold fX9_beside_65 fX9_beside_114
    rw [m_i4 et (by omega), j_b, x4]
    have e10 : (oI (V 10 t)).toInt = V 10 t := j_oI (by omega) (by omega)
    obtain ⟨σ2, a2, o2, v2⟩ := m_enters (σ := σ1) (n := f) (by omega) (oI (s : Int)) (oI (V 10 t) + l4)
    obtain ⟨σ3, a3, o3, v3⟩ := m_l3 (σ := σ2) ef (by omega : f < 24) hf2
    rw [a2, j_b, a3, j_b]
    have ek : (oI (V 10 t) + l4).toInt = V 10 t + v_beh side.toInt := by rw [j_add (by rw [e10, e4]; omega) (by rw [e10, e4]; omega), e10, e4]
    have eq2 : (oI (V 11 t) - hf2).toInt = V 11 t - max 1 (V 11 t / 2) := by rw [j_sub (by rw [ew, eh]; omega) (by rw [ew, eh]; omega), ew, eh]
    have fin : ∀ q : Int32, q.toInt = max 1 (V 11 t - V 11 t / 2) → ∃ σ', (fX9_lay σ3 462 (oI (t : Int)) 3 q).bind (fun σ18 => some (oI (f : Int), σ18)) = some (oI (f : Int), σ') ∧ Out σ σ' 463 463 ∧ VM (mv (σ'.1 463)) (v_bes1 V t side.toInt f (up V 8 f 2)) (fun k => k == f) ∧ FR (mv (σ.1 463)) (mv (σ'.1 463)) := by
      intro q eq
      obtain ⟨σ4, a4, o4, v4⟩ := m_l3 (σ := σ3) et (by omega : t < 24) q
      rw [a4, j_b]
      rw [v3, v2, es, ek, eh, eq] at v4
      have w : ∀ j, 6 ≤ j → mv (σ4.1 463) j = mv (σ.1 463) j := fun j h6 => by
        rw [v4, mu_ne (by omega), mu_ne (by omega)]
        unfold men
        rw [mu_ne (by omega), mu_ne (by omega)]
        funext i
        rw [if_neg (fun z => by omega), v1, nj j h6]
      have y0 : ∀ i, mv (σ4.1 463) 0 i = if i = f then 2 else mv (σ.1 463) 0 i := fun i => by
        rw [v4, mu_ne (by decide), mu_ne (by decide)]
        unfold men
        rw [mu_ne (by decide), mu_ne (by decide), if_neg (fun z => absurd z.1 (by decide)), v1, n0 i]
      have y2 : ∀ i, mv (σ4.1 463) 2 i = if i = f then 0 else mv (σ.1 463) 2 i := fun i => by
        rw [v4, mu_ne (by decide), mu_ne (by decide)]
        unfold men
        rw [mu_ne (by decide), mu_ne (by decide), if_neg (fun z => absurd z.1 (by decide)), v1, n2 i]
      have y5 : ∀ i, i ≠ f → mv (σ4.1 463) 5 i = mv (σ.1 463) 5 i := fun i z => by
        rw [v4, mu_ne (by decide), mu_ne (by decide)]
        unfold men
        rw [mu_ne (by decide), mu_ne (by decide), if_neg (fun z => absurd z.1 (by decide)), v1, n5 i, if_neg z]
      have y1 : ∀ i, mv (σ4.1 463) 1 i = if i = f then (s : Int) else mv (σ.1 463) 1 i := fun i => by
        rw [v4, mu_ne (by decide), mu_ne (by decide)]
        unfold men
        rw [mu_ne (by decide), mu_at, if_neg (c := 1 = 4 ∧ _) (fun z => absurd z.1 (by decide)), v1, n1 i]
        by_cases z : i = f
        · rw [if_pos z, if_pos z]
        · simp only [if_neg z]
      have y3 : ∀ i, mv (σ4.1 463) 3 i = if i = t then max 1 (V 11 t - V 11 t / 2) else if i = f then max 1 (V 11 t / 2) else mv (σ.1 463) 3 i := fun i => by
        rw [v4, mu_at, mu_at]
        unfold men
        rw [mu_ne (by decide), mu_ne (by decide), if_neg (c := 3 = 4 ∧ _) (fun z => absurd z.1 (by decide)), v1, n3 i]
        by_cases z : i = f
        · simp only [if_pos z]
        · simp only [if_neg z]
      have y4 : ∀ i, i < 23 → mv (σ4.1 463) 4 i = if i = f then V 10 t + v_beh side.toInt else if (mv (σ.1 463) 0 i ≠ 0 ∧ mv (σ.1 463) 1 i = s) ∧ V 10 t + v_beh side.toInt ≤ mv (σ.1 463) 4 i then wr (mv (σ.1 463) 4 i + 1) else mv (σ.1 463) 4 i := fun i hi => by
        rw [v4, mu_ne (by decide), mu_ne (by decide)]
        unfold men
        rw [mu_at]
        by_cases z : i = f
        · rw [if_pos z, if_pos z]
        · rw [if_neg z, if_neg z, mu_ne (by decide), v1, n0 i, n1 i, n4 i]
          simp only [if_neg z]
          by_cases y : (mv (σ.1 463) 0 i ≠ 0 ∧ mv (σ.1 463) 1 i = s) ∧ V 10 t + v_beh side.toInt ≤ mv (σ.1 463) 4 i
          · rw [if_pos ⟨trivial, by omega, y⟩, if_pos y]
          · rw [if_neg (fun x => y x.2.2), if_neg y]
      refine ⟨σ4, rfl, ((o1.tr o2).tr o3).tr o4, ?_, fun j hj => w j (by omega)⟩
      refine ⟨fun n hn => ?_, ?_, fun n hn q => ?_, fun n hn q => ?_, fun n hn q x => ?_, fun p hp => ?_, fun v hv => ?_, ?_, ?_, fun n hn q => by
        rw [c8 n hn] at q
        have z2 : n ≠ f := fun z2 => by rw [if_pos z2] at q; omega
        rw [if_neg z2] at q
        rw [y5 n z2]
        exact h.a5 hn q⟩
      · rw [c8 n hn, y0 n, y2 n]
        by_cases z2 : n = f
        · rw [if_pos z2, if_pos z2, if_pos z2]
          exact ⟨fun y => by omega, fun _ => rfl, fun y => by omega⟩
        · rw [if_neg z2, if_neg z2, if_neg z2]
          exact h.1 n hn
      · rw [y0 23, if_neg (by omega)]
        exact h.l
      · rw [c8 n hn] at q
        rw [y1 n, c9 n hn]
        by_cases z : n = f
        · rw [if_pos z, if_pos z]
        · rw [if_neg z, if_neg z]
          rw [if_neg z] at q
          exact h.pa hn q
      · have q' := q
        rw [c9 n hn] at q
        rw [y3 n, y4 n hn, c10 n hn q', c11 n hn]
        by_cases z : n = f
        · rw [if_pos z, if_pos z, if_neg (fun y => ntf (by omega)), if_pos z, if_pos z]
          exact ⟨rfl, rfl⟩
        · rw [if_neg z] at q
          have nu3 := t0.us hn q
          have k0 : mv (σ.1 463) 0 n ≠ 0 := fun y => nu3 ((h.k0 hn (t0.ki hn)).mp y)
          simp only [if_neg z]
          rw [h.pa hn nu3, h.pl hn q, h.we hn q]
          refine ⟨?_, ?_⟩
          · by_cases z2 : n = t
            · rw [if_pos z2]
            · rw [if_neg z2]
          · by_cases y : V 9 n = s ∧ V 10 t + v_beh side.toInt ≤ V 10 n
            · have := nu.1 n hn (by simp [y.1])
              rw [if_pos ⟨⟨k0, y.1⟩, y.2⟩, if_pos y, wr_id (by omega) (by omega)]
            · rw [if_neg (fun x => y ⟨x.1.2, x.2⟩), if_neg y]
      · rw [c8 n hn] at q
        have z : n ≠ f := by simpa using x
        rw [if_neg z] at q
        rw [y5 n z, bj 12 (by decide) (by decide) (by decide) (by decide) (by decide)]
        exact h.ac hn q rfl
      · rw [w 9 (by decide), w 10 (by decide), w 11 (by decide), bj 13 (by decide) (by decide) (by decide) (by decide) (by decide), bj 14 (by decide) (by decide) (by decide) (by decide) (by decide), bj 15 (by decide) (by decide) (by decide) (by decide) (by decide)]
        exact ⟨h.gr hp, h.sp hp, h.hi hp⟩
      · rw [w 12 (by decide), w 17 (by decide), w 13 (by decide), w 14 (by decide), w 15 (by decide), w 16 (by decide), c5 v hv, bj 1 (by decide) (by decide) (by decide) (by decide) (by decide), bj 2 (by decide) (by decide) (by decide) (by decide) (by decide), bj 3 (by decide) (by decide) (by decide) (by decide) (by decide), bj 4 (by decide) (by decide) (by decide) (by decide) (by decide)]
        exact ⟨h.ex hv, h.ro hv, h.geo hv⟩
      · rw [w 18 (by decide), bj 6 (by decide) (by decide) (by decide) (by decide) (by decide)]
        exact h.fc
      · rw [w 19 (by decide), bj 6 (by decide) (by decide) (by decide) (by decide) (by decide), bj 7 (by decide) (by decide) (by decide) (by decide) (by decide)]
        exact fun k hk => h.fi hk
    by_cases z : (oI (V 11 t) - hf2) ≤ 1
    · rw [if_pos z]
      rw [j_le, eq2, jz1] at z
      exact fin 1 (by rw [jz1]; omega)
    · rw [if_neg z]
      rw [j_le, eq2, jz1] at z
      exact fin _ (by rw [eq2]; omega)
  by_cases z : oI (V 11 t) / 2 ≤ 1
  · rw [if_pos z]
    rw [j_le, dv, jz1] at z
    exact main 1 (by rw [jz1]; omega)
  · rw [if_neg z]
    rw [j_le, dv, jz1] at z
    exact main _ (by rw [dv]; omega)
/-- the two lowest free nodes -/
def Two (V : VW) (f m : Nat) : Prop := f < 23 ∧ V 8 f = 3 ∧ (∀ k, k < f → V 8 k ≠ 3) ∧ v_mn V = f ∧ m < 23 ∧ V 8 m = 3 ∧ m ≠ f ∧ (∀ k, k < m → k ≠ f → V 8 k ≠ 3) ∧ v_mn (up V 8 f 2) = m
theorem two_ex {V : VW} (h : 2 ≤ cnt (fun n => decide (V 8 n = 3)) 23) : ∃ f m, Two V f m := by
  obtain ⟨f, f1, f2, f3, f4⟩ := v_mn_sp (V := V) (by omega)
  have c := cnt_one_more (c := fun n => decide (up V 8 f 2 8 n = 3)) (d := fun n => decide (V 8 n = 3)) (n := 23) f1 (fun i _ ne => by rw [up8 f1, if_neg ne]) (by rw [up8 f1, if_pos rfl]; decide) (by simp [f3])
  obtain ⟨m, m1, m2, m3, m4⟩ := v_mn_sp (V := up V 8 f 2) (by omega)
  rw [up8 f1] at m3
  have nmf : m ≠ f := fun z => by rw [if_pos z] at m3; omega
  rw [if_neg nmf] at m3
  refine ⟨f, m, f1, f3, f4, f2, m1, m3, nmf, fun k hk ne => ?_, m2⟩
  have := m4 k hk
  rw [up8 f1, if_neg ne] at this
  exact this
theorem m_beside (h : VM (mv (σ.1 463)) V (fun _ => false)) (t0 : Tree V d wn (fun _ => false)) {t f m : Nat} (ht : t < 23) (k2 : V 8 t = 2) (tw : Two V f m) {side : Int32} (hs : side = 0 ∨ side = 1 ∨ side = 2 ∨ side = 3) : ∃ σ', fX9_beside σ 462 (oI (t : Int)) side = some (oI (f : Int), σ') ∧ Out σ σ' 463 463 ∧ VM (mv (σ'.1 463)) (v_bes V t side.toInt) (fun k => k == f) ∧ FR (mv (σ.1 463)) (mv (σ'.1 463)) := by
  obtain ⟨f1, f2, f3, f4, m1, m2, m3, m4, m5⟩ := tw
  obtain ⟨e3, e4, -⟩ := sd4 hs
  have et : (oI (t : Int)).toInt = t := j_oI (by omega) (by omega)
  obtain ⟨σ1, a1, o1, v1⟩ := m_new h t0 f1 f2 f3 2
  have v1 : mv (σ1.1 463) = nn (mv (σ.1 463)) f 2 := v1
  obtain ⟨n0, n1, n2, n3, n4, n5, nj⟩ := nn_rows (U := mv (σ.1 463)) (n := f) (k := 2)
  unfold fX9_beside
  rw [j_nm, j_nm, m_i1 et (by omega), j_b, h.pa ht (by omega), a1, j_b]
  dsimp only
  unfold v_bes
  rw [ga_in ht, f4]
  have two := m_bes120 h t0 ht k2 f1 f2 f3 m1 m2 m4 m3 side m5 o1 v1 e3 e4
  by_cases r : V 9 t = -1
  · rw [if_pos (by rw [r]; rfl), if_pos r]
    exact two
  · obtain ⟨s, s1, s2, s3, _, _⟩ := t0.pa ht r
    have nsf : s ≠ f := fun z => by rw [z] at s3; omega
    have es : (oI (s : Int)).toInt = s := j_oI (by omega) (by omega)
    have w2 : mv (σ1.1 463) 2 s = V 8 s := by rw [v1, n2 s, if_neg nsf, (h.k1 s1 s3).2]
    have k8 := t0.ki s1
    rw [s2, if_neg (by rw [show (-1 : Int32) = oI (-1) from rfl, j_oe (by omega) (by omega) (by omega) (by omega)]; omega), if_neg (by omega), m_i2 es (by omega), j_b, w2, ga_in s1, up8 f1, if_neg nsf]
    by_cases y : V 8 s = v_dir side.toInt
    · rw [if_pos (by rw [j_eq, j_oI (by omega) (by omega), e3]; exact y), if_pos y]
      exact m_bes65 h t0 ht k2 f1 f2 s2 side o1 v1 e4
    · rw [if_neg (by rw [j_eq, j_oI (by omega) (by omega), e3]; exact y), if_neg y]
      exact two
end MBF

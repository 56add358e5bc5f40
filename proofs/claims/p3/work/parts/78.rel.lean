/-! THE RELATION: new groups in the reference (2) -/
theorem sd4 {s : Int32} (h : s = 0 ∨ s = 1 ∨ s = 2 ∨ s = 3) : (s / 2).toInt = v_dir s.toInt ∧ (s - s / 2 * 2).toInt = v_beh s.toInt ∧ (s / 2).toInt = (oI (v_dir s.toInt)).toInt := by
  rcases h with rfl | rfl | rfl | rfl <;> decide
theorem VM.fx {U V : VW} {X X' : Nat → Bool} (h : VM U V X) (hx : ∀ n, n < 23 → V 8 n = 2 → X' n = false → X n = false) : VM U V X' :=
  ⟨h.1, h.2.1, h.2.2.1, h.2.2.2.1, fun n hn q x => h.ac hn q (hx n hn q x), h.2.2.2.2.2⟩
section MBE
variable {σ : Sg} {V : VW} {d : Nat → Nat} {wn : Nat → Int}
theorem m_new (h : VM (mv (σ.1 463)) V (fun _ => false)) (t : Tree V d wn (fun _ => false)) {f : Nat} (hf : f < 23) (hk : V 8 f = 3) (hl : ∀ k, k < f → V 8 k ≠ 3) (k : Int32) : ∃ σ', fX9_newNode σ 462 k = some (oI (f : Int), σ') ∧ Out σ σ' 463 463 ∧ mv (σ'.1 463) = nn (mv (σ.1 463)) f k.toInt :=
  m_newNode (by omega) (h.k3 hf hk) (fun i hi z => hl i hi ((h.k0 (by omega) (t.ki (by omega))).mp z)) k
theorem m_bes120 (h : VM (mv (σ.1 463)) V (fun _ => false)) (t0 : Tree V d wn (fun _ => false)) {t f m : Nat} (ht : t < 23) (k2 : V 8 t = 2) (hf : f < 23) (hkf : V 8 f = 3) (hlf : ∀ k, k < f → V 8 k ≠ 3) (hm : m < 23) (hkm : V 8 m = 3) (hlm : ∀ k, k < m → k ≠ f → V 8 k ≠ 3) (nmf : m ≠ f) (side : Int32) (hmn : v_mn (up V 8 f 2) = m) {σ1 : Sg} (o1 : Out σ σ1 463 463) (v1 : mv (σ1.1 463) = nn (mv (σ.1 463)) f 2) {l3 l4 : Int32} (e3 : l3.toInt = v_dir side.toInt) (e4 : l4.toInt = v_beh side.toInt) : ∃ σ', fX9_beside_120 462 σ1 (oI (t : Int)) l3 l4 (oI (f : Int)) = some (oI (f : Int), σ') ∧ Out σ σ' 463 463 ∧ VM (mv (σ'.1 463)) (v_bes2 t side.toInt f (up V 8 f 2)) (fun k => k == f) ∧ FR (mv (σ.1 463)) (mv (σ'.1 463)) := by
  obtain ⟨d', wn', T, B, c8, c9, c10, c11, c5⟩ := bes2_ok t0 ht k2 hf hkf hm hkm nmf side.toInt hmn
  obtain ⟨-, -, -, -, -, -, bj⟩ := B
  have ntm : t ≠ m := fun z => by rw [z] at k2; omega
  have ntf : t ≠ f := fun z => by rw [z] at k2; omega
  have et : (oI (t : Int)).toInt = t := j_oI (by omega) (by omega)
  have ef : (oI (f : Int)).toInt = f := j_oI (by omega) (by omega)
  have em : (oI (m : Int)).toInt = m := j_oI (by omega) (by omega)
  obtain ⟨n0, n1, n2, n3, n4, n5, nj⟩ := nn_rows (U := mv (σ.1 463)) (n := f) (k := 2)
  -- the split is made
  obtain ⟨σ2, a2, o2, v2⟩ := m_newNode (σ := σ1) (n0 := m) (by omega) (by rw [v1, n0 m, if_neg nmf]; exact h.k3 hm hkm) (fun k hk z => by
    rw [v1, n0 k] at z
    by_cases y : k = f
    · rw [if_pos y] at z
      omega
    · rw [if_neg y] at z
      exact hlm k hk y ((h.k0 (by omega) (t0.ki (by omega))).mp z)) 1
  rw [v1, jz1] at v2
  obtain ⟨p0, p1, p2, p3, p4, p5, pj⟩ := nn_rows (U := nn (mv (σ.1 463)) f 2) (n := m) (k := 1)
  rw [← v2] at p0 p1 p2 p3 p4 p5 pj
  obtain ⟨σ3, a3, o3, v3⟩ := m_l2 (σ := σ2) em (by omega : m < 24) l3
  -- m stands where t stood
  have rt : ∀ j, j ≠ 2 → mv (σ3.1 463) j t = mv (σ.1 463) j t := fun j hj => by
    rw [v3, mu_ne hj, v2, v2.symm]
    have g : ∀ j, mv (σ2.1 463) j t = mv (σ.1 463) j t := fun j => by
      by_cases y : 6 ≤ j
      · rw [pj j y, nj j y]
      · have : j = 0 ∨ j = 1 ∨ j = 2 ∨ j = 3 ∨ j = 4 ∨ j = 5 := by omega
        rcases this with rfl | rfl | rfl | rfl | rfl | rfl
        · rw [p0 t, if_neg ntm, n0 t, if_neg ntf]
        · rw [p1 t, if_neg ntm, n1 t, if_neg ntf]
        · rw [p2 t, if_neg ntm, n2 t, if_neg ntf]
        · rw [p3 t, if_neg ntm, n3 t, if_neg ntf]
        · rw [p4 t, if_neg ntm, n4 t, if_neg ntf]
        · rw [p5 t, if_neg ntm, n5 t, if_neg ntf]
    exact g j
  have t1 : mv (σ3.1 463) 1 t = V 9 t := by rw [rt 1 (by decide), h.pa ht (by omega)]
  have w17 : ∀ v, v < 5 → mv (σ3.1 463) 17 v = V 5 v := fun v hv => by rw [v3, mu_ne (by decide), pj 17 (by decide), nj 17 (by decide), h.ro hv]
  have w12 : ∀ v, v < 5 → mv (σ3.1 463) 12 v = mv (σ.1 463) 12 v := fun v hv => by rw [v3, mu_ne (by decide), pj 12 (by decide), nj 12 (by decide)]
  obtain ⟨σ4, a4, o4, v4⟩ := m_repl (σ := σ3) (n := m) (o := t) (w := (wn t).toNat) (by omega) (by omega) (fun z => ntm z.symm) (fun z => by
    rw [t1] at z
    obtain ⟨w, x1, x2, x3⟩ := t0.ro ht (by omega) z
    rw [x2, Int.toNat_natCast]
    refine ⟨x1, ?_, by rw [w17 w x1, x3], fun v hv => ?_⟩
    · rw [w12 w x1, h.ex x1, if_pos (Or.inr (by omega))]
      decide
    · right
      rw [w17 v (by omega)]
      intro y
      have := t0.un (by omega) x1 y x3
      omega)
  obtain ⟨σ5, a5, o5, v5⟩ := m_l1 (σ := σ4) et (by omega : t < 24) (oI (m : Int))
  obtain ⟨σ6, a6, o6, v6⟩ := m_l4 (σ := σ5) et (by omega : t < 24) (1 - l4)
  obtain ⟨σ7, a7, o7, v7⟩ := m_l3 (σ := σ6) et (by omega : t < 24) 1000
  obtain ⟨σ8, a8, o8, v8⟩ := m_l1 (σ := σ7) ef (by omega : f < 24) (oI (m : Int))
  obtain ⟨σ9, a9, o9, v9⟩ := m_l4 (σ := σ8) ef (by omega : f < 24) l4
  unfold fX9_beside_120
  rw [a2, j_b]
  dsimp only
  rw [a3, j_b, a4, j_b, a5, j_b, a6, j_b, a7, j_b, a8, j_b, a9, j_b]
  have e1000 : (1000 : Int32).toInt = 1000 := rfl
  have b01 := beh_rg side.toInt
  have e1m : (1 - l4).toInt = 1 - v_beh side.toInt := by rw [j_sub (by rw [jz1, e4]; omega) (by rw [jz1, e4]; omega), jz1, e4]
  rw [v8, v7, v6, v5, v4, t1, rt 4 (by decide), rt 3 (by decide), em, e1m, e1000, e4] at v9
  obtain ⟨UA, hUA⟩ : ∃ UA, UA = (if V 9 t = -1 then mu (mv (σ3.1 463)) 17 (wn t).toNat m else mv (σ3.1 463)) := ⟨_, rfl⟩
  rw [← hUA] at v9
  have ua : ∀ j, j ≠ 17 → UA j = mv (σ3.1 463) j := fun j hj => by
    rw [hUA]
    split
    · rw [mu_ne hj]
    · rfl
  have s3 : ∀ j, j ≠ 2 → mv (σ3.1 463) j = mv (σ2.1 463) j := fun j hj => by rw [v3, mu_ne hj]
  have w : ∀ j, 6 ≤ j → j ≠ 17 → mv (σ9.1 463) j = mv (σ.1 463) j := fun j h6 h17 => by
    rw [v9, mu_ne (by omega), mu_ne (by omega), mu_ne (by omega), mu_ne (by omega), mu_ne (by omega), mu_ne (by omega), mu_ne (by omega), mu_ne (by omega), ua j h17, s3 j (by omega), pj j h6, nj j h6]
  have y0 : ∀ i, mv (σ9.1 463) 0 i = if i = m then 1 else if i = f then 2 else mv (σ.1 463) 0 i := fun i => by
    rw [v9, mu_ne (by decide), mu_ne (by decide), mu_ne (by decide), mu_ne (by decide), mu_ne (by decide), mu_ne (by decide), mu_ne (by decide), mu_ne (by decide), ua 0 (by decide), s3 0 (by decide), p0 i, n0 i]
  have y2 : ∀ i, mv (σ9.1 463) 2 i = if i = m then v_dir side.toInt else if i = f then 0 else mv (σ.1 463) 2 i := fun i => by
    rw [v9, mu_ne (by decide), mu_ne (by decide), mu_ne (by decide), mu_ne (by decide), mu_ne (by decide), mu_ne (by decide), mu_ne (by decide), mu_ne (by decide), ua 2 (by decide), v3, mu_at, e3, p2 i, n2 i]
    by_cases z : i = m
    · rw [if_pos z, if_pos z]
    · rw [if_neg z, if_neg z, if_neg z]
  have y1 : ∀ i, mv (σ9.1 463) 1 i = if i = f then (m : Int) else if i = t then (m : Int) else if i = m then V 9 t else mv (σ.1 463) 1 i := fun i => by
    rw [v9, mu_ne (by decide), mu_at, mu_ne (by decide), mu_ne (by decide), mu_at, mu_ne (by decide), mu_ne (by decide), mu_at, ua 1 (by decide), s3 1 (by decide), p1 i, n1 i]
    by_cases z : i = f
    · simp only [if_pos z]
    · simp only [if_neg z]
      by_cases z2 : i = t
      · simp only [if_pos z2]
      · simp only [if_neg z2]
        by_cases z3 : i = m
        · simp only [if_pos z3]
        · simp only [if_neg z3]
  have y4 : ∀ i, mv (σ9.1 463) 4 i = if i = f then v_beh side.toInt else if i = t then 1 - v_beh side.toInt else if i = m then mv (σ.1 463) 4 t else mv (σ.1 463) 4 i := fun i => by
    rw [v9, mu_at, mu_ne (by decide), mu_ne (by decide), mu_at, mu_ne (by decide), mu_ne (by decide), mu_at, mu_ne (by decide), ua 4 (by decide), s3 4 (by decide), p4 i, n4 i]
    by_cases z : i = f
    · simp only [if_pos z]
    · simp only [if_neg z]
      by_cases z2 : i = t
      · simp only [if_pos z2]
      · simp only [if_neg z2]
        by_cases z3 : i = m
        · simp only [if_pos z3]
        · simp only [if_neg z3]
  have y3 : ∀ i, mv (σ9.1 463) 3 i = if i = t then 1000 else if i = m then mv (σ.1 463) 3 t else if i = f then 1000 else mv (σ.1 463) 3 i := fun i => by
    rw [v9, mu_ne (by decide), mu_ne (by decide), mu_at, mu_ne (by decide), mu_ne (by decide), mu_at, mu_ne (by decide), mu_ne (by decide), ua 3 (by decide), s3 3 (by decide), p3 i, n3 i]
    by_cases z : i = t
    · simp only [if_pos z]
    · simp only [if_neg z]
      by_cases z3 : i = m
      · simp only [if_pos z3]
      · simp only [if_neg z3]
  have y5 : ∀ i, i ≠ m → i ≠ f → mv (σ9.1 463) 5 i = mv (σ.1 463) 5 i := fun i z1 z2 => by
    rw [v9, mu_ne (by decide), mu_ne (by decide), mu_ne (by decide), mu_ne (by decide), mu_ne (by decide), mu_ne (by decide), mu_ne (by decide), mu_ne (by decide), ua 5 (by decide), s3 5 (by decide), p5 i, n5 i, if_neg z1, if_neg z2]
  have y17 : ∀ v, v < 5 → mv (σ9.1 463) 17 v = if V 9 t = -1 ∧ V 5 v = t then (m : Int) else V 5 v := fun v hv => by
    rw [v9, mu_ne (by decide), mu_ne (by decide), mu_ne (by decide), mu_ne (by decide), mu_ne (by decide), mu_ne (by decide), mu_ne (by decide), mu_ne (by decide), hUA]
    by_cases z : V 9 t = -1
    · obtain ⟨u, x1, x2, x3⟩ := t0.ro ht (by omega) z
      rw [if_pos z, x2, Int.toNat_natCast, mu_at]
      by_cases y : v = u
      · rw [if_pos y, if_pos ⟨z, by rw [y]; exact x3⟩]
      · rw [if_neg y, if_neg (fun x => y (t0.un hv x1 x.2 x3)), w17 v hv]
    · rw [if_neg z, if_neg (fun x => z x.1), w17 v hv]
  refine ⟨σ9, rfl, (((((((o1.tr o2).tr o3).tr o4).tr o5).tr o6).tr o7).tr o8).tr o9, ?_, fun j hj => w j (by omega) (by omega)⟩
  have dr := dir_rg side.toInt
  refine ⟨fun n hn => ?_, ?_, fun n hn q => ?_, fun n hn q => ?_, fun n hn q x => ?_, fun p hp => ?_, fun v hv => ?_, ?_, ?_, fun n hn q => by
    rw [c8 n hn] at q
    by_cases z : n = m
    · rw [v9, mu_ne (by decide), mu_ne (by decide), mu_ne (by decide), mu_ne (by decide), mu_ne (by decide), mu_ne (by decide), mu_ne (by decide), mu_ne (by decide), ua 5 (by decide), s3 5 (by decide), p5 n, if_pos z]
    · rw [if_neg z] at q
      have z2 : n ≠ f := fun z2 => by rw [if_pos z2] at q; omega
      rw [if_neg z2] at q
      rw [y5 n z z2]
      exact h.a5 hn q⟩
  · rw [c8 n hn, y0 n, y2 n]
    by_cases z : n = m
    · rw [if_pos z, if_pos z, if_pos z]
      exact ⟨fun y => by omega, fun y => by omega, fun _ => ⟨rfl, rfl⟩⟩
    · rw [if_neg z, if_neg z, if_neg z]
      by_cases z2 : n = f
      · rw [if_pos z2, if_pos z2, if_pos z2]
        exact ⟨fun y => by omega, fun _ => rfl, fun y => by omega⟩
      · rw [if_neg z2, if_neg z2, if_neg z2]
        exact h.1 n hn
  · rw [y0 23, if_neg (by omega), if_neg (by omega)]
    exact h.l
  · rw [c8 n hn] at q
    rw [y1 n, c9 n hn]
    by_cases z : n = f
    · rw [if_pos z, if_neg (fun y => nmf (by omega)), if_pos (Or.inr z)]
    · rw [if_neg z]
      by_cases z2 : n = t
      · rw [if_pos z2, if_neg (fun y => ntm (by omega)), if_pos (Or.inl z2)]
      · rw [if_neg z2]
        by_cases z3 : n = m
        · rw [if_pos z3, if_pos z3]
        · rw [if_neg z3] at q
          rw [if_neg z3, if_neg z3, if_neg (fun y => y.elim z2 z)]
          rw [if_neg z] at q
          exact h.pa hn q
  · have q' := q
    rw [c9 n hn] at q
    rw [y3 n, y4 n, c10 n hn q', c11 n hn q']
    by_cases z3 : n = m
    · rw [if_pos z3] at q
      rw [if_neg (fun y => ntm (by omega)), if_pos z3, if_pos z3, if_neg (fun y => nmf (by omega)), if_neg (fun y => ntm (by omega)), if_pos z3, if_pos z3]
      exact ⟨h.we ht q, h.pl ht q⟩
    · rw [if_neg z3] at q
      rw [if_neg z3, if_neg z3, if_neg z3, if_neg z3]
      by_cases z2 : n = t
      · rw [if_pos z2, if_pos (Or.inl z2), if_neg (fun y => ntf (by omega)), if_pos z2, if_pos z2]
        exact ⟨rfl, rfl⟩
      · rw [if_neg z2, if_neg z2, if_neg z2]
        by_cases z : n = f
        · rw [if_pos z, if_pos (Or.inr z), if_pos z, if_pos z]
          exact ⟨rfl, rfl⟩
        · rw [if_neg z, if_neg z, if_neg z, if_neg (fun y => y.elim z2 z)]
          rw [if_neg (fun y => y.elim z2 z)] at q
          exact ⟨h.we hn q, h.pl hn q⟩
  · rw [c8 n hn] at q
    have z3 : n ≠ m := fun z => by rw [if_pos z] at q; omega
    rw [if_neg z3] at q
    have z : n ≠ f := by simpa using x
    rw [if_neg z] at q
    rw [y5 n z3 z, bj 12 (by decide) (by decide) (by decide) (by decide) (by decide)]
    exact h.ac hn q rfl
  · rw [w 9 (by decide) (by decide), w 10 (by decide) (by decide), w 11 (by decide) (by decide), bj 13 (by decide) (by decide) (by decide) (by decide) (by decide), bj 14 (by decide) (by decide) (by decide) (by decide) (by decide), bj 15 (by decide) (by decide) (by decide) (by decide) (by decide)]
    exact ⟨h.gr hp, h.sp hp, h.hi hp⟩
  · have ev : (v = 0 ∨ v_bes2 t side.toInt f (up V 8 f 2) 5 v ≠ -1) ↔ (v = 0 ∨ V 5 v ≠ -1) := by
      rw [c5 v hv]
      by_cases z : V 9 t = -1 ∧ V 5 v = t
      · rw [if_pos z, z.2]
        constructor <;> intro _ <;> exact Or.inr (by omega)
      · rw [if_neg z]
    rw [w 12 (by decide) (by decide), y17 v hv, w 13 (by decide) (by decide), w 14 (by decide) (by decide), w 15 (by decide) (by decide), w 16 (by decide) (by decide), bj 1 (by decide) (by decide) (by decide) (by decide) (by decide), bj 2 (by decide) (by decide) (by decide) (by decide) (by decide), bj 3 (by decide) (by decide) (by decide) (by decide) (by decide), bj 4 (by decide) (by decide) (by decide) (by decide) (by decide)]
    refine ⟨?_, (c5 v hv).symm, fun q => h.geo hv (ev.mp q)⟩
    rw [h.ex hv]
    by_cases z : v = 0 ∨ V 5 v ≠ -1
    · rw [if_pos z, if_pos (ev.mpr z)]
    · rw [if_neg z, if_neg (fun y => z (ev.mp y))]
  · rw [w 18 (by decide) (by decide), bj 6 (by decide) (by decide) (by decide) (by decide) (by decide)]
    exact h.fc
  · rw [w 19 (by decide) (by decide), bj 6 (by decide) (by decide) (by decide) (by decide) (by decide), bj 7 (by decide) (by decide) (by decide) (by decide) (by decide)]
    exact fun k hk => h.fi hk
end MBE

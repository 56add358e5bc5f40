/-! THE RELATION: the reference's plan (3): a split's least size -/
section MC
variable {σ : Sg} {V : VW} {d : Nat → Nat} {wn : Nat → Int} {X Y : Nat → Bool} {mw mh : Nat → Int}
/-- the sum with its dividers -/
def sd (c : Nat → Bool) (f : Nat → Int) (i : Nat) : Int := if 1 ≤ cnt c i then sm (fun k => if c k then f k else 0) i + cnt c i - 1 else 0
theorem sm_nil {c : Nat → Bool} {f : Nat → Int} {n : Nat} (h : cnt c n = 0) : sm (fun k => if c k then f k else 0) n = 0 := by
  refine Eq.trans (sm_congr (h := fun _ => 0) (fun i hi => ?_)) (sm_0 n)
  show (if c i = true then f i else 0) = 0
  rw [cnt_zero.mp h i hi]
  rfl
theorem sd_1 {c : Nat → Bool} {f : Nat → Int} {i : Nat} (h : c i = true) : sd c f (i + 1) = sd c f i + (if 1 ≤ cnt c i then 1 else 0) + f i := by
  have e : sm (fun k => if c k then f k else 0) (i + 1) = sm (fun k => if c k then f k else 0) i + f i := by
    show sm (fun k => if c k then f k else 0) i + (if c i then f i else 0) = _
    rw [h]
    rfl
  have e2 : cnt c (i + 1) = cnt c i + 1 := by rw [cnt_nx, h]; rfl
  unfold sd
  rw [e2, e, if_pos (by omega)]
  by_cases q : 1 ≤ cnt c i
  · rw [if_pos q, if_pos q]
    omega
  · have := sm_nil (f := f) (show cnt c i = 0 by omega)
    rw [if_neg q, if_neg q, this]
    omega
theorem sd_0 {c : Nat → Bool} {f : Nat → Int} {i : Nat} (h : c i = false) : sd c f (i + 1) = sd c f i := by
  have e : sm (fun k => if c k then f k else 0) (i + 1) = sm (fun k => if c k then f k else 0) i := by
    show sm (fun k => if c k then f k else 0) i + (if c i then f i else 0) = _
    rw [h]
    exact Int.add_zero _
  have e2 : cnt c (i + 1) = cnt c i := by rw [cnt_nx, h]; rfl
  unfold sd
  rw [e2, e]
theorem gx_1 {c : Nat → Bool} {f : Nat → Int} {i : Nat} (h : c i = true) : gx c f (i + 1) = if gx c f i < f i then f i else gx c f i := by
  show (if c i then _ else _) = _
  rw [h]
  rfl
theorem gx_0 {c : Nat → Bool} {f : Nat → Int} {i : Nat} (h : c i = false) : gx c f (i + 1) = gx c f i := by
  show (if c i then _ else _) = _
  rw [h]
  rfl
/-- the children seen -/
def cs (V P : VW) (n i : Nat) : Bool := decide (V 9 i = n) && decide (P 1 i = 1)
/-- a split's least size, once the sums are told -/
theorem ls_fin (t : Tree V d wn Y) {n : Nat} (hn : n < 23) (k : V 8 n ≤ 1) {P P' : VW} (hP : ∀ j i, i ≠ n → P' j i = P j i) (h1 : P' 1 n = if decide (1 ≤ cnt (cs V P n) 23) then 1 else 0) (hS : P' (2 + dr V n) n = (oI (sd (cs V P n) (P (2 + dr V n)) 23)).toInt) (hM : P' (3 - dr V n) n = gx (cs V P n) (P (3 - dr V n)) 23) : LT V P' n := by
  have ne : ∀ c, c < 23 → V 9 c = n → c ≠ n := fun c hc e z => by
    have := (t.par hc e).2.2.1
    rw [z] at this
    omega
  have ep : pls V P' n = pls V P n := pls_cg (fun c hc => by
    obtain ⟨a, b⟩ := (t.kids_mem hn k).mp hc
    exact hP 1 c (ne c a b))
  have mem := fun c => t.pls_mem (P := P) hn k (c := c)
  have memc : ∀ c, c ∈ pls V P n ↔ c < 23 ∧ cs V P n c = true := fun c => by
    rw [mem c]
    unfold cs
    simp only [Bool.and_eq_true, decide_eq_true_eq]
  have nd := t.pls_nd (P := P) hn k
  have lc := list_cnt (cs V P n) nd memc
  have pn : ∀ c ∈ pls V P n, c ≠ n := fun c hc => ne c ((mem c).mp hc).1 ((mem c).mp hc).2.1
  refine ⟨by rw [h1]; split <;> omega, ?_, fun q => ?_⟩
  · rw [h1]
    constructor
    · intro z
      by_cases w : 1 ≤ cnt (cs V P n) 23
      · obtain ⟨c, hc, e⟩ := cnt_ex w
        unfold cs at e
        simp only [Bool.and_eq_true, decide_eq_true_eq] at e
        exact ⟨c, hc, e.1, by rw [hP 1 c (ne c hc e.1)]; exact e.2⟩
      · rw [decide_eq_false w] at z
        exact absurd z (by decide)
    · rintro ⟨c, hc, e, p⟩
      rw [hP 1 c (ne c hc e)] at p
      have : 1 ≤ cnt (cs V P n) 23 := cnt_pos hc (by unfold cs; rw [decide_eq_true e, decide_eq_true p]; rfl)
      rw [decide_eq_true this]
      rfl
  · have w : 1 ≤ cnt (cs V P n) 23 := by
      refine Classical.byContradiction (fun w => ?_)
      rw [h1, decide_eq_false w] at q
      exact absurd q (by decide)
    rw [ep, hS, hM]
    constructor
    · refine congrArg (fun x => (oI x).toInt) ?_
      unfold sd
      rw [if_pos w, Sm_congr (f := P' (2 + dr V n)) (g := P (2 + dr V n)) (fun c hc => hP _ c (pn c hc)), list_sm (P (2 + dr V n)) (N := 23) nd (fun c hc => ((mem c).mp hc).1), lc]
      have : sm (fun k => if cs V P n k = true then P (2 + dr V n) k else 0) 23 = sm (fun i => if i ∈ pls V P n then P (2 + dr V n) i else 0) 23 := sm_congr (fun i hi => by
        by_cases y : cs V P n i = true
        · rw [if_pos y, if_pos ((memc i).mpr ⟨hi, y⟩)]
        · rw [if_neg y, if_neg (fun z => y ((memc i).mp z).2)])
      rw [this]
    · rw [lgx_cg (f := P' (3 - dr V n)) (g := P (3 - dr V n)) (fun c hc => hP _ c (pn c hc))]
      exact (lgx_gx (P (3 - dr V n)) (cs V P n) memc).symm
/-- the loop over the children (across) -/
theorem m_leastS0 (h : VM (mv (σ.1 463)) V X) (t : Tree V d wn Y) {n : Nat} (hn : n < 23) (k : V 8 n = 0) (hc : ∀ i, i < 23 → V 9 i = n → mq σ 1 i = 0 ∨ mq σ 1 i = 1) : ∃ σ', fX9_laysLeast σ 462 (nI n) = some σ' ∧ Fq σ σ' n ∧ LT V (mq σ') n := by
  have en : (nI n).toInt = n := j_nI (by omega)
  have two : (2 : Int32).toInt = 2 := rfl
  have k0 := (h.k1 hn (by omega)).1
  have k2 := (h.k1 hn (by omega)).2
  have u0 : ¬ oI (mv (σ.1 463) 0 n) = 2 := fun z => by
    rw [j_eq, t_mv, k0, two] at z
    omega
  have u2 : (oI (mv (σ.1 463) 2 n)) = 0 := by rw [k2, k]; rfl
  have dz : dr V n = 0 := by unfold dr; rw [k]; rfl
  have e2 : ∀ i, (2 : Int32) * nI i = nI (2 * i) := fun i => (Int32.ofNat_mul 2 i).symm
  unfold fX9_laysLeast
  rw [m_i0 en (by omega), j_b, if_neg u0]
  refine lp (F := fun m (s : Int32 × Int32 × Int32 × Int32) => fX9_laysLeast_113 462 m σ (nI n) s.1 s.2.1 s.2.2.1 s.2.2.2) (Q := fun o => ∃ σ', o = some σ' ∧ Fq σ σ' n ∧ LT V (mq σ') n) (fun i s => s.1 = oI (sd (cs V (mq σ) n) (mq σ (2 + 0)) (min i 23)) ∧ s.2.1.toInt = gx (cs V (mq σ) n) (mq σ (3 - 0)) (min i 23) ∧ s.2.2.1 = (if decide (1 ≤ cnt (cs V (mq σ) n) (min i 23)) then 1 else 0) ∧ s.2.2.2 = nI i) 24 ?_ ?_ 24 0 FU (0, 0, 0, 0) rfl (by decide) ⟨rfl, rfl, rfl, rfl⟩
  · rintro m i ⟨a, b, f, l⟩ hi ⟨hS, hM, hf, rfl⟩
    simp only at hS hM hf
    have ei : (nI i).toInt = i := j_nI (by omega)
    show ∃ s' : Int32 × Int32 × Int32 × Int32, _ ∧ fX9_laysLeast_113 462 (m + 1) σ (nI n) a b f (nI i) = _
    have nle : ¬ (24 : Int32) ≤ nI i := n_ge 24 (m := 24) rfl hi (by decide)
    rw [fX9_laysLeast_113, if_neg nle, m_isChild ei hi, j_b, en]
    by_cases i23 : i < 23
    · have m1 : min i 23 = i := by omega
      have m2 : min (i + 1) 23 = i + 1 := by omega
      rw [m1] at hS hM hf
      rw [h.ch t i23 (by omega)]
      have skip : cs V (mq σ) n i = false → ∃ s' : Int32 × Int32 × Int32 × Int32, (s'.1 = oI (sd (cs V (mq σ) n) (mq σ (2 + 0)) (min (i + 1) 23)) ∧ s'.2.1.toInt = gx (cs V (mq σ) n) (mq σ (3 - 0)) (min (i + 1) 23) ∧ s'.2.2.1 = (if decide (1 ≤ cnt (cs V (mq σ) n) (min (i + 1) 23)) then 1 else 0) ∧ s'.2.2.2 = nI (i + 1)) ∧ fX9_laysLeast_276 462 (fX9_laysLeast_113 462 m) σ (nI n) a b f (nI i) = fX9_laysLeast_113 462 m σ (nI n) s'.1 s'.2.1 s'.2.2.1 s'.2.2.2 := fun v0 => by
        unfold fX9_laysLeast_276
        rw [j_s, m2, sd_0 v0, gx_0 v0, cnt_nx, v0]
        exact ⟨(a, b, f, nI (i + 1)), ⟨hS, hM, hf, rfl⟩, rfl⟩
      by_cases q : V 9 i = n
      · have s7 : σ.1 467 i = 0 ↔ mq σ 1 i = 0 := by rw [mq1 (by omega), j_eq, jz0]
        have q' : decide (V 9 i = (n : Int)) = true := decide_eq_true q
        rw [if_pos q', if_pos (j_ckn (by omega) (by decide)), j_cl _ (by omega), show (462 + 5 : Nat) = 467 from rfl]
        rcases hc i i23 q with z | z
        · rw [if_pos (s7.mpr z)]
          exact skip (by unfold cs; rw [decide_eq_false (p := mq σ 1 i = 1) (by omega), Bool.and_false])
        · have n7 : ¬ σ.1 467 i = 0 := fun y => by rw [s7] at y; omega
          have v1 : cs V (mq σ) n i = true := by unfold cs; rw [decide_eq_true q, decide_eq_true z]; rfl
          have p2 : σ.1 468 (2 * i) = oI (mq σ 2 i) := by rw [mq2 (by omega), j_oIt]
          have p3 : σ.1 468 (2 * i + 1) = oI (mq σ 3 i) := by rw [mq3 (by omega), j_oIt]
          have t2 : (oI (mq σ 2 i)).toInt = mq σ 2 i := by rw [← p2, mq2 (by omega)]
          have t3 : (oI (mq σ 3 i)).toInt = mq σ 3 i := by rw [← p3, mq3 (by omega)]
          have c1 : cnt (cs V (mq σ) n) (i + 1) = cnt (cs V (mq σ) n) i + 1 := by rw [cnt_nx, v1]; rfl
          have c2 : decide (1 ≤ cnt (cs V (mq σ) n) (i + 1)) = true := decide_eq_true (by omega)
          have ck0 : ck (nI (2 * i)) 48 := j_ckn (by omega) (by decide)
          have ck1 : ck (nI (2 * i + 1)) 48 := j_ckn (by omega) (by decide)
          have p2' : σ.1 (462 + 6) (nI (2 * i)).toNatClampNeg = oI (mq σ 2 i) := by rw [j_cl _ (by omega)]; exact p2
          have p3' : σ.1 (462 + 6) (nI (2 * i + 1)).toNatClampNeg = oI (mq σ 3 i) := by rw [j_cl _ (by omega)]; exact p3
          have div : ∀ g : Int32, g = (if 1 ≤ cnt (cs V (mq σ) n) i then 1 else 0) → g = oI (if 1 ≤ cnt (cs V (mq σ) n) i then 1 else 0) := fun g hg => by
            rw [hg]
            split <;> rfl
          rw [if_neg n7, m_i2 en (by omega), j_b, u2, if_neg (show ¬ (0 : Int32) = 1 by decide)]
          have go : ∀ g : Int32, g = (if 1 ≤ cnt (cs V (mq σ) n) i then 1 else 0) → ∃ s' : Int32 × Int32 × Int32 × Int32, (s'.1 = oI (sd (cs V (mq σ) n) (mq σ (2 + 0)) (min (i + 1) 23)) ∧ s'.2.1.toInt = gx (cs V (mq σ) n) (mq σ (3 - 0)) (min (i + 1) 23) ∧ s'.2.2.1 = (if decide (1 ≤ cnt (cs V (mq σ) n) (min (i + 1) 23)) then 1 else 0) ∧ s'.2.2.2 = nI (i + 1)) ∧ fX9_laysLeast_167 462 (fX9_laysLeast_113 462 m) σ (nI n) a b (nI i) 0 g = fX9_laysLeast_113 462 m σ (nI n) s'.1 s'.2.1 s'.2.2.1 s'.2.2.2 := fun g hg => by
            have hg := div g hg
            rw [m2, sd_1 v1, gx_1 v1]
            unfold fX9_laysLeast_167
            rw [if_pos rfl, e2, if_pos ck0]
            have sum : (a + g) + σ.1 (462 + 6) (nI (2 * i)).toNatClampNeg = oI (sd (cs V (mq σ) n) (mq σ (2 + 0)) i + (if 1 ≤ cnt (cs V (mq σ) n) i then 1 else 0) + mq σ (2 + 0) i) := by
              rw [p2', hS, hg, j_oa, j_oa]
            unfold fX9_laysLeast_217
            rw [if_pos rfl, e2, j_s, if_pos ck1]
            by_cases y : σ.1 (462 + 6) (nI (2 * i + 1)).toNatClampNeg ≤ b
            · rw [if_pos y]
              unfold fX9_laysLeast_272 fX9_laysLeast_276
              rw [j_s]
              rw [j_le, p3', t3, hM] at y
              refine ⟨(_, b, 1, nI (i + 1)), ⟨sum, ?_, by rw [c2]; rfl, rfl⟩, rfl⟩
              show b.toInt = _
              have y : mq σ (3 - 0) i ≤ gx (cs V (mq σ) n) (mq σ (3 - 0)) i := y
              rw [if_neg (by omega), hM]
            · rw [if_neg y, if_pos ck1]
              unfold fX9_laysLeast_272 fX9_laysLeast_276
              rw [j_s]
              rw [j_le, p3', t3, hM] at y
              refine ⟨(_, _, 1, nI (i + 1)), ⟨sum, ?_, by rw [c2]; rfl, rfl⟩, rfl⟩
              show (σ.1 (462 + 6) (nI (2 * i + 1)).toNatClampNeg).toInt = _
              have y : ¬ mq σ (3 - 0) i ≤ gx (cs V (mq σ) n) (mq σ (3 - 0)) i := y
              rw [if_pos (by omega), p3', t3]
          unfold fX9_laysLeast_155
          by_cases w : 1 ≤ cnt (cs V (mq σ) n) i
          · have f1 : ¬ f = 0 := fun y => by rw [hf, decide_eq_true w] at y; exact absurd y (by decide)
            rw [if_neg f1]
            exact go 1 (by rw [if_pos w])
          · have f1 : f = 0 := by rw [hf, decide_eq_false w]; rfl
            rw [if_pos f1]
            exact go 0 (by rw [if_neg w])
      · have q' : ¬ decide (V 9 i = (n : Int)) = true := fun y => q (of_decide_eq_true y)
        rw [if_neg q']
        exact skip (by unfold cs; rw [decide_eq_false q, Bool.false_and])
    · have i3 : i = 23 := by omega
      subst i3
      have q' : ¬ (decide (mv (σ.1 463) 0 23 ≠ 0) && decide (mv (σ.1 463) 1 23 = (n : Int))) = true := fun y => by
        rw [h.l] at y
        simp at y
      rw [if_neg q']
      unfold fX9_laysLeast_276
      rw [j_s]
      exact ⟨(a, b, f, nI 24), ⟨hS, hM, hf, rfl⟩, rfl⟩
  · rintro m ⟨a, b, f, l⟩ ⟨hS, hM, hf, rfl⟩
    simp only at hS hM hf
    show ∃ σ', fX9_laysLeast_113 462 (m + 1) σ (nI n) a b f (nI 24) = _ ∧ _
    rw [fX9_laysLeast_113, if_pos (n_le 24 (m := 24) rfl (by decide)), hf]
    obtain ⟨σ', e, fq, p1, p2, p3⟩ := m_ll282 (σ := σ) (n := n) (by omega) a b (decide (1 ≤ cnt (cs V (mq σ) n) 23))
    refine ⟨σ', e, fq, ls_fin t hn (by omega) (P := mq σ) (fun j i hi => fq.row hi) p1 ?_ ?_⟩
    · rw [dz]
      show mq σ' 2 n = _
      rw [p2, hS]
      rfl
    · rw [dz]
      show mq σ' 3 n = _
      rw [p3, hM]
      rfl
/-- the loop over the children (down) -/
theorem m_leastS1 (h : VM (mv (σ.1 463)) V X) (t : Tree V d wn Y) {n : Nat} (hn : n < 23) (k : V 8 n = 1) (hc : ∀ i, i < 23 → V 9 i = n → mq σ 1 i = 0 ∨ mq σ 1 i = 1) : ∃ σ', fX9_laysLeast σ 462 (nI n) = some σ' ∧ Fq σ σ' n ∧ LT V (mq σ') n := by
  have en : (nI n).toInt = n := j_nI (by omega)
  have two : (2 : Int32).toInt = 2 := rfl
  have k0 := (h.k1 hn (by omega)).1
  have k2 := (h.k1 hn (by omega)).2
  have u0 : ¬ oI (mv (σ.1 463) 0 n) = 2 := fun z => by
    rw [j_eq, t_mv, k0, two] at z
    omega
  have u2 : (oI (mv (σ.1 463) 2 n)) = 1 := by rw [k2, k]; rfl
  have dz : dr V n = 1 := by unfold dr; rw [k]; rfl
  have e2 : ∀ i, (2 : Int32) * nI i = nI (2 * i) := fun i => (Int32.ofNat_mul 2 i).symm
  unfold fX9_laysLeast
  rw [m_i0 en (by omega), j_b, if_neg u0]
  refine lp (F := fun m (s : Int32 × Int32 × Int32 × Int32) => fX9_laysLeast_113 462 m σ (nI n) s.1 s.2.1 s.2.2.1 s.2.2.2) (Q := fun o => ∃ σ', o = some σ' ∧ Fq σ σ' n ∧ LT V (mq σ') n) (fun i s => s.2.1 = oI (sd (cs V (mq σ) n) (mq σ (2 + 1)) (min i 23)) ∧ s.1.toInt = gx (cs V (mq σ) n) (mq σ (3 - 1)) (min i 23) ∧ s.2.2.1 = (if decide (1 ≤ cnt (cs V (mq σ) n) (min i 23)) then 1 else 0) ∧ s.2.2.2 = nI i) 24 ?_ ?_ 24 0 FU (0, 0, 0, 0) rfl (by decide) ⟨rfl, rfl, rfl, rfl⟩
  · rintro m i ⟨a, b, f, l⟩ hi ⟨hS, hM, hf, rfl⟩
    simp only at hS hM hf
    have ei : (nI i).toInt = i := j_nI (by omega)
    show ∃ s' : Int32 × Int32 × Int32 × Int32, _ ∧ fX9_laysLeast_113 462 (m + 1) σ (nI n) a b f (nI i) = _
    have nle : ¬ (24 : Int32) ≤ nI i := n_ge 24 (m := 24) rfl hi (by decide)
    rw [fX9_laysLeast_113, if_neg nle, m_isChild ei hi, j_b, en]
    by_cases i23 : i < 23
    · have m1 : min i 23 = i := by omega
      have m2 : min (i + 1) 23 = i + 1 := by omega
      rw [m1] at hS hM hf
      rw [h.ch t i23 (by omega)]
      have skip : cs V (mq σ) n i = false → ∃ s' : Int32 × Int32 × Int32 × Int32, (s'.2.1 = oI (sd (cs V (mq σ) n) (mq σ (2 + 1)) (min (i + 1) 23)) ∧ s'.1.toInt = gx (cs V (mq σ) n) (mq σ (3 - 1)) (min (i + 1) 23) ∧ s'.2.2.1 = (if decide (1 ≤ cnt (cs V (mq σ) n) (min (i + 1) 23)) then 1 else 0) ∧ s'.2.2.2 = nI (i + 1)) ∧ fX9_laysLeast_276 462 (fX9_laysLeast_113 462 m) σ (nI n) a b f (nI i) = fX9_laysLeast_113 462 m σ (nI n) s'.1 s'.2.1 s'.2.2.1 s'.2.2.2 := fun v0 => by
        unfold fX9_laysLeast_276
        rw [j_s, m2, sd_0 v0, gx_0 v0, cnt_nx, v0]
        exact ⟨(a, b, f, nI (i + 1)), ⟨hS, hM, hf, rfl⟩, rfl⟩
      by_cases q : V 9 i = n
      · have s7 : σ.1 467 i = 0 ↔ mq σ 1 i = 0 := by rw [mq1 (by omega), j_eq, jz0]
        have q' : decide (V 9 i = (n : Int)) = true := decide_eq_true q
        rw [if_pos q', if_pos (j_ckn (by omega) (by decide)), j_cl _ (by omega), show (462 + 5 : Nat) = 467 from rfl]
        rcases hc i i23 q with z | z
        · rw [if_pos (s7.mpr z)]
          exact skip (by unfold cs; rw [decide_eq_false (p := mq σ 1 i = 1) (by omega), Bool.and_false])
        · have n7 : ¬ σ.1 467 i = 0 := fun y => by rw [s7] at y; omega
          have v1 : cs V (mq σ) n i = true := by unfold cs; rw [decide_eq_true q, decide_eq_true z]; rfl
          have p2 : σ.1 468 (2 * i) = oI (mq σ 2 i) := by rw [mq2 (by omega), j_oIt]
          have p3 : σ.1 468 (2 * i + 1) = oI (mq σ 3 i) := by rw [mq3 (by omega), j_oIt]
          have t2 : (oI (mq σ 2 i)).toInt = mq σ 2 i := by rw [← p2, mq2 (by omega)]
          have t3 : (oI (mq σ 3 i)).toInt = mq σ 3 i := by rw [← p3, mq3 (by omega)]
          have c1 : cnt (cs V (mq σ) n) (i + 1) = cnt (cs V (mq σ) n) i + 1 := by rw [cnt_nx, v1]; rfl
          have c2 : decide (1 ≤ cnt (cs V (mq σ) n) (i + 1)) = true := decide_eq_true (by omega)
          have ck0 : ck (nI (2 * i)) 48 := j_ckn (by omega) (by decide)
          have ck1 : ck (nI (2 * i + 1)) 48 := j_ckn (by omega) (by decide)
          have p2' : σ.1 (462 + 6) (nI (2 * i)).toNatClampNeg = oI (mq σ 2 i) := by rw [j_cl _ (by omega)]; exact p2
          have p3' : σ.1 (462 + 6) (nI (2 * i + 1)).toNatClampNeg = oI (mq σ 3 i) := by rw [j_cl _ (by omega)]; exact p3
          have div : ∀ g : Int32, g = (if 1 ≤ cnt (cs V (mq σ) n) i then 1 else 0) → g = oI (if 1 ≤ cnt (cs V (mq σ) n) i then 1 else 0) := fun g hg => by
            rw [hg]
            split <;> rfl
          rw [if_neg n7, m_i2 en (by omega), j_b, u2, if_pos rfl]
          have go : ∀ g : Int32, g = (if 1 ≤ cnt (cs V (mq σ) n) i then 1 else 0) → ∃ s' : Int32 × Int32 × Int32 × Int32, (s'.2.1 = oI (sd (cs V (mq σ) n) (mq σ (2 + 1)) (min (i + 1) 23)) ∧ s'.1.toInt = gx (cs V (mq σ) n) (mq σ (3 - 1)) (min (i + 1) 23) ∧ s'.2.2.1 = (if decide (1 ≤ cnt (cs V (mq σ) n) (min (i + 1) 23)) then 1 else 0) ∧ s'.2.2.2 = nI (i + 1)) ∧ fX9_laysLeast_167 462 (fX9_laysLeast_113 462 m) σ (nI n) a b (nI i) 1 g = fX9_laysLeast_113 462 m σ (nI n) s'.1 s'.2.1 s'.2.2.1 s'.2.2.2 := fun g hg => by
            have hg := div g hg
            rw [m2, sd_1 v1, gx_1 v1]
            unfold fX9_laysLeast_167
            have n10 : ¬ (1 : Int32) = 0 := by decide
            rw [if_neg n10, e2, if_pos ck0]
            have sum : (b + g) + σ.1 (462 + 6) (nI (2 * i + 1)).toNatClampNeg = oI (sd (cs V (mq σ) n) (mq σ (2 + 1)) i + (if 1 ≤ cnt (cs V (mq σ) n) i then 1 else 0) + mq σ (2 + 1) i) := by
              rw [p3', hS, hg, j_oa, j_oa]
            have tail : ∀ a' : Int32, a'.toInt = (if gx (cs V (mq σ) n) (mq σ (3 - 1)) i < mq σ (3 - 1) i then mq σ (3 - 1) i else gx (cs V (mq σ) n) (mq σ (3 - 1)) i) → ∃ s' : Int32 × Int32 × Int32 × Int32, (s'.2.1 = oI (sd (cs V (mq σ) n) (mq σ (2 + 1)) i + (if 1 ≤ cnt (cs V (mq σ) n) i then 1 else 0) + mq σ (2 + 1) i) ∧ s'.1.toInt = (if gx (cs V (mq σ) n) (mq σ (3 - 1)) i < mq σ (3 - 1) i then mq σ (3 - 1) i else gx (cs V (mq σ) n) (mq σ (3 - 1)) i) ∧ s'.2.2.1 = (if decide (1 ≤ cnt (cs V (mq σ) n) (i + 1)) then 1 else 0) ∧ s'.2.2.2 = nI (i + 1)) ∧ fX9_laysLeast_217 462 (fX9_laysLeast_113 462 m) σ (nI n) b (nI i) 1 g a' = fX9_laysLeast_113 462 m σ (nI n) s'.1 s'.2.1 s'.2.2.1 s'.2.2.2 := fun a' ha' => by
              unfold fX9_laysLeast_217
              rw [if_neg n10, e2, j_s, if_pos ck1]
              unfold fX9_laysLeast_272 fX9_laysLeast_276
              rw [j_s]
              exact ⟨(a', _, 1, nI (i + 1)), ⟨sum, ha', by rw [c2]; rfl, rfl⟩, rfl⟩
            by_cases y : σ.1 (462 + 6) (nI (2 * i)).toNatClampNeg ≤ a
            · rw [if_pos y]
              rw [j_le, p2', t2, hM] at y
              have y : mq σ (3 - 1) i ≤ gx (cs V (mq σ) n) (mq σ (3 - 1)) i := y
              exact tail a (by rw [if_neg (by omega), hM])
            · rw [if_neg y, if_pos ck0]
              rw [j_le, p2', t2, hM] at y
              have y : ¬ mq σ (3 - 1) i ≤ gx (cs V (mq σ) n) (mq σ (3 - 1)) i := y
              exact tail _ (by rw [if_pos (by omega), p2', t2])
          unfold fX9_laysLeast_155
          by_cases w : 1 ≤ cnt (cs V (mq σ) n) i
          · have f1 : ¬ f = 0 := fun y => by rw [hf, decide_eq_true w] at y; exact absurd y (by decide)
            rw [if_neg f1]
            exact go 1 (by rw [if_pos w])
          · have f1 : f = 0 := by rw [hf, decide_eq_false w]; rfl
            rw [if_pos f1]
            exact go 0 (by rw [if_neg w])
      · have q' : ¬ decide (V 9 i = (n : Int)) = true := fun y => q (of_decide_eq_true y)
        rw [if_neg q']
        exact skip (by unfold cs; rw [decide_eq_false q, Bool.false_and])
    · have i3 : i = 23 := by omega
      subst i3
      have q' : ¬ (decide (mv (σ.1 463) 0 23 ≠ 0) && decide (mv (σ.1 463) 1 23 = (n : Int))) = true := fun y => by
        rw [h.l] at y
        simp at y
      rw [if_neg q']
      unfold fX9_laysLeast_276
      rw [j_s]
      exact ⟨(a, b, f, nI 24), ⟨hS, hM, hf, rfl⟩, rfl⟩
  · rintro m ⟨a, b, f, l⟩ ⟨hS, hM, hf, rfl⟩
    simp only at hS hM hf
    show ∃ σ', fX9_laysLeast_113 462 (m + 1) σ (nI n) a b f (nI 24) = _ ∧ _
    rw [fX9_laysLeast_113, if_pos (n_le 24 (m := 24) rfl (by decide)), hf]
    obtain ⟨σ', e, fq, p1, p2, p3⟩ := m_ll282 (σ := σ) (n := n) (by omega) a b (decide (1 ≤ cnt (cs V (mq σ) n) 23))
    refine ⟨σ', e, fq, ls_fin t hn (by omega) (P := mq σ) (fun j i hi => fq.row hi) p1 ?_ ?_⟩
    · rw [dz]
      show mq σ' 3 n = _
      rw [p3, hS]
      rfl
    · rw [dz]
      show mq σ' 2 n = _
      rw [p2, hM]
      rfl
end MC

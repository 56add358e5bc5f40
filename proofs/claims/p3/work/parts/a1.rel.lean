/-! THE RELATION: steps of the calls; create -/
section RA1
theorem s_kr {σ : Sg} {S : ST} {l : List ST} (h : CR σ S l) : ∃ σ', fX8_keepRecord σ = some σ' ∧ (∀ c, 438 ≤ c → σ'.1 c = σ.1 c) ∧ CR σ' S (keep l S) := by
  obtain ⟨h1, h2, h3, h4, h5⟩ := h
  obtain ⟨σ', a, b, e, c⟩ := s_keepRecord h2
  rw [h1] at c
  refine ⟨σ', a, fun k hk => e k (by omega) (by omega), (stv_c (fun k a b => e k (by omega) (by omega))).trans h1, c, h3, fun T hT => ?_, h5.c (fun k a b => e k (by omega) (by omega))⟩
  rcases keep_mem hT with z | z
  · exact h4 T z
  · rw [z]
    exact h3
theorem CR.mod {σ σ1 : Sg} {S S' : ST} {L : List ST} (h : CR σ S L) (o : ∀ c, c = 0 ∨ 71 ≤ c → σ1.1 c = σ.1 c) (hs : stv σ1 1 = S') (hS : SI S') : ∃ σ2, fX2_compute σ1 422 1 = some σ2 ∧ Out σ1 σ2 422 437 ∧ CR σ2 S' L := by
  subst hs
  obtain ⟨-, h2, -, h4, -⟩ := h
  obtain ⟨s1, s2, s3, s4, ⟨d, wn, s5⟩, s6, s7⟩ := hS
  obtain ⟨i1, i2, i3, i4⟩ := s5
  obtain ⟨σ2, a, b, c, e⟩ := s_compute (σ := σ1) i1 i2 i4 (fun p hp => ⟨(s3 p hp).1, fun z => (s3 p hp).2.2 (s4 p hp z)⟩) (fun p hp => (s3 p hp).2.1)
  have hs : stv σ2 1 = stv σ1 1 := stv_c (fun k a1 a2 => b.2 k (by omega))
  refine ⟨σ2, a, b, hs, h2.c ((b.2 0 (by omega)).trans (o 0 (by omega))) (fun k a1 a2 => (b.2 k (by omega)).trans (o k (by omega))), ⟨s1, s2, s3, s4, ⟨d, wn, i1, i2, i3, i4⟩, s6, s7⟩, h4, c, e⟩
theorem CR.mod0 {σ σ1 : Sg} {S S' : ST} {L : List ST} (h : CR σ S L) (o : ∀ c, c = 0 ∨ 71 ≤ c → σ1.1 c = σ.1 c) (hs : stv σ1 1 = S') (hS : SI S') (hp : PL σ S → PL σ S') : CR σ1 S' L := by
  obtain ⟨-, h2, -, h4, h5⟩ := h
  exact ⟨hs, h2.c (o 0 (by omega)) (fun k a1 a2 => o k (by omega)), hS, h4, (hp h5).c (fun k a1 a2 => o k (by omega))⟩
theorem m_kr {σ : Sg} {S : ST} {l : List ST} (h : MR σ S l) : ∃ σ', fX9_saves σ 462 = some σ' ∧ F9 σ σ' ∧ σ'.1 463 = σ.1 463 ∧ MR σ' S (keep l S) := by
  obtain ⟨σ', a, b, c⟩ := m_saves h.1 h.2
  have e := b.2.1 463 (by omega) (by omega)
  exact ⟨σ', a, F9.or b, e, c, by rw [e]; exact h.2⟩
theorem MR.mod {σ σ1 : Sg} {S S' : ST} {L : List ST} (h : MR σ S L) (o : Out σ σ1 463 463) (hs : SM (mv (σ1.1 463)) S') : MR σ1 S' L :=
  ⟨h.1.c (by rw [o.2 462 (by omega)]) (o.2 464 (by omega)), hs⟩
theorem Lay.mw {V : VW} {mw mh mw' mh' : Nat → Int} {P : VW} (h : Lay V mw mh P) (e : ∀ p, p < 12 → V 13 p ≠ -1 → mw' p = mw p ∧ mh' p = mh p) : Lay V mw' mh' P := by
  obtain ⟨h1, h2, h3, h4⟩ := h
  refine ⟨fun n hn k => ?_, h2, h3, h4⟩
  obtain ⟨a, b, c⟩ := h1 n hn k
  have vz : ∀ p, vis V n p = true → V 13 p ≠ -1 := fun p z => by
    unfold vis at z
    simp only [Bool.and_eq_true, decide_eq_true_eq] at z
    omega
  refine ⟨a, b, fun q => ?_⟩
  rw [(c q).1, (c q).2]
  exact ⟨gx_congr (fun i hi => ⟨rfl, fun z => (e i hi (vz i z)).1.symm⟩), by rw [gx_congr (c := vis V n) (d := vis V n) (f := mh) (g := mh') (fun i hi => ⟨rfl, fun z => (e i hi (vz i z)).2.symm⟩)]⟩
theorem VM.rows {U U' V : VW} {X : Nat → Bool} (h : VM U V X) (e : ∀ j, j < 6 ∨ (9 ≤ j ∧ j < 20) → U' j = U j) : VM U' V X := by
  unfold VM
  rw [e 0 (by omega), e 1 (by omega), e 2 (by omega), e 3 (by omega), e 4 (by omega), e 5 (by omega), e 9 (by omega), e 10 (by omega), e 11 (by omega), e 12 (by omega), e 13 (by omega), e 14 (by omega), e 15 (by omega), e 16 (by omega), e 17 (by omega), e 18 (by omega), e 19 (by omega)]
  exact h
theorem s_reqR {σ : Sg} (v lo hi : Int32) : fX8_requireRange σ v lo hi = some (if decide (lo.toInt ≤ v.toInt ∧ v.toInt ≤ hi.toInt) then .inl () else .inr 1) := by
  unfold fX8_requireRange fX8_requireRange_10
  by_cases a : v < lo
  · rw [if_pos a, decide_eq_false (by rw [j_lt] at a; omega)]
    rfl
  · rw [if_neg a]
    by_cases b : v ≤ hi
    · rw [if_pos b, decide_eq_true (by rw [j_lt] at a; rw [j_le] at b; omega)]
      rfl
    · rw [if_neg b, decide_eq_false (by rw [j_le] at b; omega)]
      rfl
def mnP (a b : Int32) : Bool := decide (1 ≤ a.toInt ∧ a.toInt ≤ 40) && decide (1 ≤ b.toInt ∧ b.toInt ≤ 40)
theorem s_reqM {σ : Sg} (a b : Int32) : fX8_requireMinimum σ a b = some (if mnP a b then .inl () else .inr 1) := by
  have e1 : (1 : Int32).toInt = 1 := rfl
  have e40 : (40 : Int32).toInt = 40 := rfl
  unfold fX8_requireMinimum mnP
  rw [s_reqR, s_reqR, e1, e40]
  cases decide (1 ≤ a.toInt ∧ a.toInt ≤ 40) <;> cases decide (1 ≤ b.toInt ∧ b.toInt ≤ 40) <;> rfl
theorem s_reqP {σ : Sg} (h : SI (stv σ 1)) (p : Int32) : fX8_requirePane σ p = some (if exP (stv σ 1) p then .inl () else .inr 0) := by
  unfold fX8_requirePane exP
  rw [s_exists h.1, j_b]
  cases (decide (0 ≤ p.toInt ∧ p.toInt < 12) && exB (stv σ 1) p.toInt.toNat) <;> rfl
theorem m_isP {σ : Sg} {S : ST} (h : SM (mv (σ.1 463)) S) (p : Int32) : fX9_isPane σ 462 p = some (exP S p) := by
  rw [m_isPane]
  unfold exP
  by_cases a : 0 ≤ p.toInt ∧ p.toInt < 12
  · rw [decide_eq_true a, Bool.true_and, Bool.true_and, (h.1 p.toInt.toNat (by omega)).1]
    cases exB S p.toInt.toNat <;> rfl
  · rw [decide_eq_false a, Bool.false_and, Bool.false_and]
theorem exP_n {S : ST} {p : Int32} (h : exP S p = true) : ∃ k : Nat, p.toInt = k ∧ k < 12 ∧ exB S k = true := by
  unfold exP at h
  simp only [Bool.and_eq_true, decide_eq_true_eq] at h
  exact ⟨p.toInt.toNat, by omega, by omega, h.2⟩
/-! create -/
def lfP (S : ST) : Int := fnd (fun p => !exB S p) 12
theorem m_cr2 {σ : Sg} {S : ST} (h : SM (mv (σ.1 463)) S) (a b : Int32) : fX9_create_2 462 FU σ a b 0 = fX9_create_24 462 σ a b (nI (if lfP S = -1 then 12 else (lfP S).toNat)) := by
  refine lpx (F := fun f (s : Int32) => fX9_create_2 462 f σ a b s) (Q := fun o => o = fX9_create_24 462 σ a b (nI (if lfP S = -1 then 12 else (lfP S).toNat))) (fun i s => s = nI i ∧ ∀ k, k < i → exB S k = true) 12 ?_ ?_ 12 0 FU 0 rfl (by decide) ⟨rfl, fun k hk => absurd hk (by omega)⟩
  · rintro f i _ hi ⟨rfl, hl⟩
    have ei : (nI i).toInt = i := j_nI (by omega)
    have nle : ¬ (12 : Int32) ≤ nI i := n_ge 12 (m := 12) rfl hi (by decide)
    have key : fX9_create_2 462 (f + 1) σ a b (nI i) = if exB S i then fX9_create_2 462 f σ a b (nI (i + 1)) else fX9_create_24 462 σ a b (nI i) := by
      rw [fX9_create_2, if_neg nle, m_o0 ei hi, j_b, (h.1 i hi).1, j_s]
      cases exB S i <;> rfl
    cases q : exB S i
    · left
      show fX9_create_2 462 (f + 1) σ a b (nI i) = _
      rw [key, q]
      have : lfP S = i := fnd_at hi (by rw [q]; rfl) (fun k hk => by rw [hl k hk]; rfl)
      show fX9_create_24 462 σ a b (nI i) = _
      rw [this, if_neg (show ¬ (i : Int) = -1 by omega), Int.toNat_natCast]
    · right
      rw [q] at key
      exact ⟨nI (i + 1), ⟨rfl, fun k hk => by
        by_cases z : k = i
        · rw [z]; exact q
        · exact hl k (by omega)⟩, key⟩
  · rintro f _ ⟨rfl, hl⟩
    show fX9_create_2 462 (f + 1) σ a b (nI 12) = _
    rw [fX9_create_2, if_pos (n_le 12 (m := 12) rfl (by decide))]
    have : lfP S = -1 := fnd_no (fun k hk => by rw [hl k hk]; rfl)
    rw [this, if_pos rfl]
def crS (S : ST) (k : Nat) (a b : Int) : ST := (((((S_ex S).toNat ||| 2 ^ k : Nat) : Int), S_sv S), ur (S_mw S) k a, ur (S_mh S) k b, S.2.2.2)
theorem crS_ex {S : ST} {k j : Nat} {a b : Int} : exB (crS S k a b) j = (exB S j || decide (j = k)) := by
  unfold exB crS
  show Nat.testBit ((((S_ex S).toNat ||| 2 ^ k : Nat) : Int)).toNat j = _
  rw [Int.toNat_natCast, or_bit]
theorem crS_SI {S : ST} {k : Nat} (h : SI S) (hk : k < 12) {a b : Int} (ha : 1 ≤ a ∧ a ≤ 40) (hb : 1 ≤ b ∧ b ≤ 40) : SI (crS S k a b) := by
  obtain ⟨h1, h2, h3, h4, h5, h6, h7⟩ := h
  refine ⟨?_, h2, fun p hp => ?_, fun p hp z => ?_, h5, h6, h7⟩
  · have := or_lt (m := (S_ex S).toNat) (by omega) hk
    show (0 : Int) ≤ (((S_ex S).toNat ||| 2 ^ k : Nat) : Int) ∧ (((S_ex S).toNat ||| 2 ^ k : Nat) : Int) < 4096
    omega
  · have := h3 p hp
    show (0 ≤ ur (S_mw S) k a p ∧ ur (S_mw S) k a p ≤ 40) ∧ (0 ≤ ur (S_mh S) k b p ∧ ur (S_mh S) k b p ≤ 40) ∧ (_ → 1 ≤ ur (S_mw S) k a p)
    rw [crS_ex]
    unfold ur
    by_cases q : p = k
    · rw [if_pos q, if_pos q]
      exact ⟨by omega, by omega, fun _ => ha.1⟩
    · rw [if_neg q, if_neg q, decide_eq_false q, Bool.or_false]
      exact this
  · rw [crS_ex, h4 p hp z]
    rfl
theorem s_create {σ : Sg} {S : ST} {l : List ST} (h : CR σ S l) {a b : Int32} (hm : mnP a b = true) {k : Nat} (hk : lfP S = k) (hk12 : k < 12) : ∃ σ1, fX8_create σ a b = some (.inl (nI k), σ1) ∧ (∀ c, 438 ≤ c → σ1.1 c = σ.1 c) ∧ CR σ1 (crS S k a.toInt b.toInt) (keep l S) := by
  have hS := h.2.2.1
  have h1 := h.1
  obtain ⟨σ1, a1, e1, c1⟩ := s_kr h
  have x1 := c1.1
  have nk : (nI k).toInt = k := j_nI (by omega)
  obtain ⟨σ2, a2, o2, v2⟩ := s_addPane (σ := σ1) (b := 1) (by rw [x1]; exact hS.1) (p := nI k) nk hk12
  obtain ⟨σ3, a3, o3, v3⟩ := s_setMinimums (σ := σ2) (b := 1) (p := nI k) nk hk12 a b
  rw [v2, x1] at v3
  unfold mnP at hm
  simp only [Bool.and_eq_true, decide_eq_true_eq] at hm
  have exk : exB S k = false := by
    rcases fnd_spec (fun p => !exB S p) 12 with ⟨z, -⟩ | ⟨i, hi, z, w, -⟩
    · have : lfP S = -1 := z
      omega
    · have : lfP S = i := z
      have : i = k := by omega
      subst this
      simpa using w
  have np : S_pl S 13 k = -1 := by
    refine Classical.byContradiction (fun z => ?_)
    rw [hS.2.2.2.1 k hk12 z] at exk
    cases exk
  refine ⟨σ3, ?_, fun c hc => by rw [o3.2 c (by omega), o2.2 c (by omega)]; exact e1 c hc, c1.mod0 (fun c hc => by rw [o3.2 c (by omega), o2.2 c (by omega)]) v3 (crS_SI hS hk12 hm.1 hm.2) (fun pl => ⟨pl.1.mw (fun p hp z => ?_), pl.2⟩)⟩
  · unfold fX8_create
    rw [s_reqM, j_b, show mnP a b = true by unfold mnP; simp only [Bool.and_eq_true, decide_eq_true_eq]; exact hm, if_pos rfl, j_xl, s_lowestFreePane (b := 1) (by rw [h1]; exact hS.1), j_b, h1]
    have : fnd (fun p => !exB S p) 12 = k := hk
    rw [this, ← j_nIo k (by omega), if_neg (fun z => by rw [j_eq, nk, jm1] at z; omega), a1, j_b, a2, j_b, a3, j_b]
  · have : p ≠ k := fun w => z (by rw [w]; exact np)
    show ur (S_mw S) k a.toInt p = S_mw S p ∧ ur (S_mh S) k b.toInt p = S_mh S p
    unfold ur
    rw [if_neg this, if_neg this]
    exact ⟨rfl, rfl⟩
theorem m_create {σ : Sg} {S : ST} {l : List ST} (h : MR σ S l) {a b : Int32} (hm : mnP a b = true) {k : Nat} (hk : lfP S = k) (hk12 : k < 12) : ∃ σ1, fX9_create σ 462 a b = some (nI k, σ1) ∧ G9 σ σ1 0 ∧ MR σ1 (crS S k a.toInt b.toInt) (keep l S) := by
  have nk : (nI k).toInt = k := j_nI (by omega)
  obtain ⟨σ1, a1, f1, e1, c1⟩ := m_kr (h.s3 (k := 0))
  obtain ⟨σ2, a2, o2, v2⟩ := m_p0 (σ := σ1) nk hk12 1
  obtain ⟨σ3, a3, o3, v3⟩ := m_p1 (σ := σ2) nk hk12 a
  obtain ⟨σ4, a4, o4, v4⟩ := m_p2 (σ := σ3) nk hk12 b
  have o : Out σ1 σ4 463 463 := (o2.tr o3).tr o4
  refine ⟨σ4, ?_, (G9.s3.tr f1).tr (F9.ou o), c1.mod o ?_⟩
  · unfold fX9_create
    rw [m_cr2 h.2, hk, if_neg (by omega), Int.toNat_natCast]
    unfold fX9_create_24
    unfold mnP at hm
    simp only [Bool.and_eq_true, decide_eq_true_eq] at hm
    rw [m_within, j_b, show (1 : Int32).toInt = 1 from rfl, show (40 : Int32).toInt = 40 from rfl, decide_eq_true hm.1, if_pos rfl, m_within, j_b, show (1 : Int32).toInt = 1 from rfl, show (40 : Int32).toInt = 40 from rfl, decide_eq_true hm.2, if_pos rfl, if_neg (fun z => by rw [j_eq, nk, show (12 : Int32).toInt = 12 from rfl] at z; omega)]
    unfold fX9_create_60
    rw [rf0, j_b]
    show (fX9_saves (su σ 462 3 0) 462).bind _ = _
    rw [a1, j_b, a2, j_b, a3, j_b, a4, j_b]
  · obtain ⟨s1, s2, s3, s4⟩ := c1.2
    rw [v4, v3, v2]
    refine ⟨fun p hp => ?_, s2.rows (fun j hj => ?_), ?_, fun s hs => ?_⟩
    · rw [crS_ex]
      obtain ⟨t1, t2⟩ := s1 p hp
      have e6 : ∀ (U : VW) (x y z : Int) (i : Nat), mu (mu (mu U 6 k x) 7 k y) 8 k z 6 i = if i = k then x else U 6 i := fun U x y z i => by rw [mu_ne (by omega), mu_ne (by omega), mu_at]
      have e7 : ∀ (U : VW) (x y z : Int) (i : Nat), mu (mu (mu U 6 k x) 7 k y) 8 k z 7 i = if i = k then y else U 7 i := fun U x y z i => by rw [mu_ne (by omega), mu_at, mu_ne (by omega)]
      have e8 : ∀ (U : VW) (x y z : Int) (i : Nat), mu (mu (mu U 6 k x) 7 k y) 8 k z 8 i = if i = k then z else U 8 i := fun U x y z i => by rw [mu_at, mu_ne (by omega), mu_ne (by omega)]
      rw [e6, e7, e8]
      show (if p = k then (1 : Int32).toInt else _) = _ ∧ (_ → (if p = k then a.toInt else _) = ur (S_mw S) k a.toInt p ∧ (if p = k then b.toInt else _) = ur (S_mh S) k b.toInt p)
      unfold ur
      by_cases q : p = k
      · rw [if_pos q, if_pos q, if_pos q, if_pos q, if_pos q, decide_eq_true q, Bool.or_true]
        exact ⟨rfl, fun _ => ⟨rfl, rfl⟩⟩
      · rw [if_neg q, if_neg q, if_neg q, if_neg q, if_neg q, decide_eq_false q, Bool.or_false]
        exact ⟨t1, t2⟩
    · rw [mu_ne (by omega), mu_ne (by omega), mu_ne (by omega)]
    · show OE (_, _) _
      rw [mu_ne (by omega), mu_ne (by omega), mu_ne (by omega), mu_ne (by omega), mu_ne (by omega), mu_ne (by omega)]
      exact s3
    · rw [mu_ne (by omega), mu_ne (by omega), mu_ne (by omega)]
      exact s4 s hs
theorem c_create {σ : Sg} (h : RR σ) (a b : Int32) : PI (fL_create σ a b 476 1) (fun s => fX9_create s 462 a b) := by
  obtain ⟨S, l, c, m, tx⟩ := h
  have h1 := c.1
  have hS := c.2.2.1
  have hR : RR σ := ⟨S, l, c, m, tx⟩
  have lf := fnd_rg (fun p => !exB S p) 12
  have lf : -1 ≤ lfP S ∧ lfP S < 12 := lf
  cases hm : mnP a b
  · refine pi_no (k := 1) (b := 0) hR ?_ (by decide) ?_
    · unfold fL_create fX8_create
      rw [s_reqM, j_b, hm]
      rfl
    · show fX9_create σ 462 a b = _
      unfold fX9_create
      rw [m_cr2 m.2]
      generalize nI (if lfP S = -1 then 12 else (lfP S).toNat) = l3
      unfold fX9_create_24 fX9_create_45
      rw [m_within, m_within, j_b, show (1 : Int32).toInt = 1 from rfl, show (40 : Int32).toInt = 40 from rfl]
      unfold mnP at hm
      have fin : fX9_create_60 462 σ a b l3 1 = some (0, su σ 462 3 1) := by
        unfold fX9_create_60
        rw [rf1, j_b, if_pos rfl]
      cases q1 : decide (1 ≤ a.toInt ∧ a.toInt ≤ 40)
      · exact fin
      · rw [q1, Bool.true_and] at hm
        rw [hm]
        exact fin
  · by_cases q : lfP S = -1
    · refine pi_no (k := 2) (b := 0) hR ?_ (by decide) ?_
      · unfold fL_create fX8_create
        have : fnd (fun p => !exB S p) 12 = -1 := q
        rw [s_reqM, j_b, hm, if_pos rfl, j_xl, s_lowestFreePane (b := 1) (by rw [h1]; exact hS.1), j_b, h1, this]
        rfl
      · show fX9_create σ 462 a b = _
        unfold fX9_create
        rw [m_cr2 m.2, if_pos q]
        unfold fX9_create_24
        unfold mnP at hm
        simp only [Bool.and_eq_true, decide_eq_true_eq] at hm
        rw [m_within, j_b, show (1 : Int32).toInt = 1 from rfl, show (40 : Int32).toInt = 40 from rfl, decide_eq_true hm.1, if_pos rfl, m_within, j_b, show (1 : Int32).toInt = 1 from rfl, show (40 : Int32).toInt = 40 from rfl, decide_eq_true hm.2, if_pos rfl, if_pos (show nI 12 = (12 : Int32) from rfl)]
        unfold fX9_create_60
        rw [rf2, j_b, if_pos rfl]
    · obtain ⟨k, hk⟩ : ∃ k : Nat, lfP S = k := ⟨(lfP S).toNat, by omega⟩
      obtain ⟨σ1, a1, f1, c1⟩ := s_create c hm hk (by omega)
      refine pi_ok tx m ?_ f1 c1 (fun s ms => m_create ms hm hk (by omega))
      unfold fL_create
      rw [a1, j_b, j_xl, if_pos (by decide), j_nm]
      rfl
end RA1

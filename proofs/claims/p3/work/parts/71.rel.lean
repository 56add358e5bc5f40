/-! THE RELATION: the reference's readers -/
def m_cc (U : VW) (s : Int) : Nat := cnt (fun n => decide (U 0 n ≠ 0) && decide (U 1 n = s)) 24
def m_ca (U : VW) (s k : Int) : Int := fnd (fun n => (decide (U 0 n ≠ 0) && decide (U 1 n = s)) && decide (U 4 n = k)) 24
def m_tc (U : VW) (g : Int) : Nat := cnt (fun p => decide (U 9 p = g)) 12
def m_ta (U : VW) (g k : Int) : Int := fnd (fun p => decide (U 9 p = g) && decide (U 10 p = k)) 12
def m_pm (U : VW) : Nat := cnt (fun p => decide (U 9 p ≠ -1)) 12
/-- the reference's row U tells the class's placement V; the active tabs of X are open -/
def VM (U V : VW) (X : Nat → Bool) : Prop :=
  (∀ n, n < 23 → (V 8 n = 3 → U 0 n = 0) ∧ (V 8 n = 2 → U 0 n = 2) ∧ (V 8 n ≤ 1 → U 0 n = 1 ∧ U 2 n = V 8 n)) ∧
  U 0 23 = 0 ∧
  (∀ n, n < 23 → V 8 n ≠ 3 → U 1 n = V 9 n) ∧
  (∀ n, n < 23 → V 9 n ≠ -1 → U 3 n = V 11 n ∧ U 4 n = V 10 n) ∧
  (∀ n, n < 23 → V 8 n = 2 → X n = false → U 5 n = V 12 n) ∧
  (∀ p, p < 12 → U 9 p = V 13 p ∧ (V 13 p ≠ -1 → U 10 p = V 14 p) ∧ U 11 p = V 15 p) ∧
  (∀ w, w < 5 → U 12 w = (if w = 0 ∨ V 5 w ≠ -1 then 1 else 0) ∧ U 17 w = V 5 w ∧ (w = 0 ∨ V 5 w ≠ -1 → U 13 w = V 1 w ∧ U 14 w = V 2 w ∧ U 15 w = V 3 w ∧ U 16 w = V 4 w)) ∧
  U 18 0 = V 6 1 ∧ (∀ k : Nat, (k : Int) < V 6 1 → U 19 k = V 7 k) ∧ ∀ n, n < 23 → V 8 n ≤ 1 → U 5 n = -1
section VMA
variable {U V : VW} {X : Nat → Bool}
theorem VM.k3 (h : VM U V X) {n : Nat} (hn : n < 23) (q : V 8 n = 3) : U 0 n = 0 := (h.1 n hn).1 q
theorem VM.k2 (h : VM U V X) {n : Nat} (hn : n < 23) (q : V 8 n = 2) : U 0 n = 2 := (h.1 n hn).2.1 q
theorem VM.k1 (h : VM U V X) {n : Nat} (hn : n < 23) (q : V 8 n ≤ 1) : U 0 n = 1 ∧ U 2 n = V 8 n := (h.1 n hn).2.2 q
theorem VM.l (h : VM U V X) : U 0 23 = 0 := h.2.1
theorem VM.pa (h : VM U V X) {n : Nat} (hn : n < 23) (q : V 8 n ≠ 3) : U 1 n = V 9 n := h.2.2.1 n hn q
theorem VM.we (h : VM U V X) {n : Nat} (hn : n < 23) (q : V 9 n ≠ -1) : U 3 n = V 11 n := (h.2.2.2.1 n hn q).1
theorem VM.pl (h : VM U V X) {n : Nat} (hn : n < 23) (q : V 9 n ≠ -1) : U 4 n = V 10 n := (h.2.2.2.1 n hn q).2
theorem VM.ac (h : VM U V X) {n : Nat} (hn : n < 23) (q : V 8 n = 2) (x : X n = false) : U 5 n = V 12 n := h.2.2.2.2.1 n hn q x
theorem VM.gr (h : VM U V X) {p : Nat} (hp : p < 12) : U 9 p = V 13 p := (h.2.2.2.2.2.1 p hp).1
theorem VM.sp (h : VM U V X) {p : Nat} (hp : p < 12) (q : V 13 p ≠ -1) : U 10 p = V 14 p := (h.2.2.2.2.2.1 p hp).2.1 q
theorem VM.hi (h : VM U V X) {p : Nat} (hp : p < 12) : U 11 p = V 15 p := (h.2.2.2.2.2.1 p hp).2.2
theorem VM.ex (h : VM U V X) {w : Nat} (hw : w < 5) : U 12 w = if w = 0 ∨ V 5 w ≠ -1 then 1 else 0 := (h.2.2.2.2.2.2.1 w hw).1
theorem VM.ro (h : VM U V X) {w : Nat} (hw : w < 5) : U 17 w = V 5 w := (h.2.2.2.2.2.2.1 w hw).2.1
theorem VM.geo (h : VM U V X) {w : Nat} (hw : w < 5) (q : w = 0 ∨ V 5 w ≠ -1) : U 13 w = V 1 w ∧ U 14 w = V 2 w ∧ U 15 w = V 3 w ∧ U 16 w = V 4 w := (h.2.2.2.2.2.2.1 w hw).2.2 q
theorem VM.fc (h : VM U V X) : U 18 0 = V 6 1 := h.2.2.2.2.2.2.2.1
theorem VM.fi (h : VM U V X) {k : Nat} (q : (k : Int) < V 6 1) : U 19 k = V 7 k := h.2.2.2.2.2.2.2.2.1 k q
theorem VM.a5 (h : VM U V X) {n : Nat} (hn : n < 23) (q : V 8 n ≤ 1) : U 5 n = -1 := h.2.2.2.2.2.2.2.2.2 n hn q
theorem VM.k0 (h : VM U V X) {n : Nat} (hn : n < 23) (hk : 0 ≤ V 8 n ∧ V 8 n ≤ 3) : U 0 n = 0 ↔ V 8 n = 3 := by
  have a := h.1 n hn
  constructor
  · intro q
    by_cases x : V 8 n = 3
    · exact x
    · by_cases y : V 8 n = 2
      · have := a.2.1 y
        omega
      · have := (a.2.2 (by omega)).1
        omega
  · exact a.1
variable {d : Nat → Nat} {wn : Nat → Int} {Y : Nat → Bool}
/-- a child here is a child there -/
theorem VM.ch (h : VM U V X) (t : Tree V d wn Y) {n : Nat} (hn : n < 23) {s : Int} (hs : s ≠ -1) : (decide (U 0 n ≠ 0) && decide (U 1 n = s)) = decide (V 9 n = s) := by
  by_cases q : V 8 n = 3
  · rw [h.k3 hn q, t.fr hn q]
    have : ¬ (-1 : Int) = s := fun z => hs z.symm
    simp [this]
  · have : ¬ U 0 n = 0 := fun z => q ((h.k0 hn (t.ki hn)).mp z)
    rw [h.pa hn q]
    simp [this]
theorem VM.cc (h : VM U V X) (t : Tree V d wn Y) {s : Int} (hs : s ≠ -1) : m_cc U s = v_cc V s := by
  unfold m_cc v_cc
  rw [if_neg hs]
  show cnt _ (23 + 1) = _
  have : cnt (fun n => decide (U 0 n ≠ 0) && decide (U 1 n = s)) (23 + 1) = cnt (fun n => decide (U 0 n ≠ 0) && decide (U 1 n = s)) 23 + (if (decide (U 0 23 ≠ 0) && decide (U 1 23 = s)) then 1 else 0) := rfl
  rw [this, h.l, cnt_congr (fun i hi => h.ch t hi hs)]
  simp
theorem VM.ca (h : VM U V X) (t : Tree V d wn Y) {s k : Int} (hs : s ≠ -1) : m_ca U s k = v_ca V s k := by
  unfold m_ca v_ca
  rw [if_neg hs]
  have e : ∀ i, i < 23 → ((decide (U 0 i ≠ 0) && decide (U 1 i = s)) && decide (U 4 i = k)) = (decide (V 9 i = s) && decide (V 10 i = k)) := fun i hi => by
    rw [h.ch t hi hs]
    by_cases z : V 9 i = s
    · rw [h.pl hi (by rw [z]; exact hs)]
    · simp [z]
  show (if 0 ≤ fnd _ 23 then fnd _ 23 else if ((decide (U 0 23 ≠ 0) && decide (U 1 23 = s)) && decide (U 4 23 = k)) then _ else -1) = _
  rw [fnd_congr e, h.l]
  have := fnd_rg (fun n => decide (V 9 n = s) && decide (V 10 n = k)) 23
  simp
  omega
theorem VM.tc (h : VM U V X) (g : Int) : m_tc U g = v_tc V g := cnt_congr (fun i hi => by rw [h.gr hi])
theorem VM.ta (h : VM U V X) {g : Int} (hg : g ≠ -1) (k : Int) : m_ta U g k = v_ta V g k := by
  unfold m_ta v_ta
  rw [if_neg hg]
  refine fnd_congr (fun i hi => ?_)
  rw [h.gr hi]
  by_cases z : V 13 i = g
  · rw [h.sp hi (by rw [z]; exact hg)]
  · simp [z]
theorem VM.pm (h : VM U V X) : m_pm U = cnt (fun p => decide (V 13 p ≠ -1)) 12 := cnt_congr (fun i hi => by rw [h.gr hi])
end VMA
section MR
variable {σ : Sg}
theorem t_cnt (c : Nat → Bool) {n : Nat} (h : n < 2147483648) : (oI (cnt c n)).toInt = cnt c n := j_oI (by omega) (by have := cnt_le c n; omega)
theorem m_childMany (s : Int32) : fX9_childMany σ 462 s = some (oI (m_cc (mv (σ.1 463)) s.toInt)) := by
  unfold fX9_childMany m_cc
  rw [← j_nIo _ (by have := cnt_le (fun n => decide (mv (σ.1 463) 0 n ≠ 0) && decide (mv (σ.1 463) 1 n = s.toInt)) 24; omega)]
  refine lp_cnt (F := fun n a l => fX9_childMany_4 σ 462 n s a l) 24 ?_ ?_ FU (by decide)
  · intro n a i hi
    show fX9_childMany_4 σ 462 (n + 1) s a (nI i) = _
    rw [fX9_childMany_4, if_neg (n_ge 24 (m := 24) rfl hi (by decide)), m_isChild (n := i) (j_nI (by omega)) hi, j_b]
    unfold fX9_childMany_25
    cases q : (decide (mv (σ.1 463) 0 i ≠ 0) && decide (mv (σ.1 463) 1 i = s.toInt))
    · rw [if_neg (by decide), if_neg (by decide), j_nm, j_s]
    · rw [if_pos rfl, if_pos rfl, j_nm, j_s]
  · intro n a
    show fX9_childMany_4 σ 462 (n + 1) s a (nI 24) = _
    rw [fX9_childMany_4, if_pos (n_le 24 (m := 24) rfl (by decide))]
theorem m_child (s k : Int32) : fX9_child σ 462 s k = some (oI (m_ca (mv (σ.1 463)) s.toInt k.toInt)) := by
  unfold fX9_child m_ca
  refine lp_fnd (F := fun n l => fX9_child_2 σ 462 n s k l) 24 (by decide) ?_ ?_ FU (by decide)
  · intro n i hi
    show fX9_child_2 σ 462 (n + 1) s k (nI i) = _
    rw [fX9_child_2, if_neg (n_ge 24 (m := 24) rfl hi (by decide)), m_isChild (n := i) (j_nI (by omega)) hi, j_b]
    unfold fX9_child_29
    cases q : (decide (mv (σ.1 463) 0 i ≠ 0) && decide (mv (σ.1 463) 1 i = s.toInt))
    · rw [if_neg (by decide), if_neg (by simp), j_s]
    · rw [if_pos rfl, m_i4 (n := i) (j_nI (by omega)) hi, j_b]
      by_cases z : mv (σ.1 463) 4 i = k.toInt
      · rw [if_pos (by rw [j_eq, t_mv]; exact z), if_pos (by simp [z])]
      · rw [if_neg (by rw [j_eq, t_mv]; exact z), if_neg (by simp [z]), j_s]
  · intro n
    show fX9_child_2 σ 462 (n + 1) s k (nI 24) = _
    rw [fX9_child_2, if_pos (n_le 24 (m := 24) rfl (by decide))]
theorem m_tabMany (g : Int32) : fX9_tabMany σ 462 g = some (oI (m_tc (mv (σ.1 463)) g.toInt)) := by
  unfold fX9_tabMany m_tc
  rw [← j_nIo _ (by have := cnt_le (fun p => decide (mv (σ.1 463) 9 p = g.toInt)) 12; omega)]
  refine lp_cnt (F := fun n a l => fX9_tabMany_4 σ 462 n g a l) 12 ?_ ?_ FU (by decide)
  · intro n a i hi
    show fX9_tabMany_4 σ 462 (n + 1) g a (nI i) = _
    rw [fX9_tabMany_4, if_neg (n_ge 12 (m := 12) rfl hi (by decide)), m_o3 (p := i) (j_nI (by omega)) hi, j_b]
    unfold fX9_tabMany_26
    by_cases q : mv (σ.1 463) 9 i = g.toInt
    · have q' : mv (σ.1 463) 9 i = g.toInt := q
      rw [if_pos (by rw [j_eq, t_mv]; exact q), if_pos (by rw [decide_eq_true q']), j_nm, j_s]
    · have q' : ¬ mv (σ.1 463) 9 i = g.toInt := q
      rw [if_neg (by rw [j_eq, t_mv]; exact q), if_neg (by rw [decide_eq_false q']; decide), j_nm, j_s]
  · intro n a
    show fX9_tabMany_4 σ 462 (n + 1) g a (nI 12) = _
    rw [fX9_tabMany_4, if_pos (n_le 12 (m := 12) rfl (by decide))]
theorem m_tabAt (g k : Int32) : fX9_tabAt σ 462 g k = some (oI (m_ta (mv (σ.1 463)) g.toInt k.toInt)) := by
  unfold fX9_tabAt m_ta
  refine lp_fnd (F := fun n l => fX9_tabAt_2 σ 462 n g k l) 12 (by decide) ?_ ?_ FU (by decide)
  · intro n i hi
    show fX9_tabAt_2 σ 462 (n + 1) g k (nI i) = _
    rw [fX9_tabAt_2, if_neg (n_ge 12 (m := 12) rfl hi (by decide)), m_o3 (p := i) (j_nI (by omega)) hi, j_b]
    unfold fX9_tabAt_30
    by_cases q : mv (σ.1 463) 9 i = g.toInt
    · have q' : mv (σ.1 463) 9 i = g.toInt := q
      rw [if_pos (by rw [j_eq, t_mv]; exact q), m_o4 (p := i) (j_nI (by omega)) hi, j_b]
      by_cases z : mv (σ.1 463) 10 i = k.toInt
      · have z' : mv (σ.1 463) 10 i = k.toInt := z
        rw [if_pos (by rw [j_eq, t_mv]; exact z), if_pos (by simp [q', z'])]
      · have z' : ¬ mv (σ.1 463) 10 i = k.toInt := z
        rw [if_neg (by rw [j_eq, t_mv]; exact z), if_neg (by simp [z']), j_s]
    · have q' : ¬ mv (σ.1 463) 9 i = g.toInt := q
      rw [if_neg (by rw [j_eq, t_mv]; exact q), if_neg (by simp [q']), j_s]
  · intro n
    show fX9_tabAt_2 σ 462 (n + 1) g k (nI 12) = _
    rw [fX9_tabAt_2, if_pos (n_le 12 (m := 12) rfl (by decide))]
theorem m_placedMany : fX9_placedMany σ 462 = some (oI (m_pm (mv (σ.1 463)))) := by
  unfold fX9_placedMany m_pm
  rw [← j_nIo _ (by have := cnt_le (fun p => decide (mv (σ.1 463) 9 p ≠ -1)) 12; omega)]
  refine lp_cnt (F := fun n a l => fX9_placedMany_4 σ 462 n a l) 12 ?_ ?_ FU (by decide)
  · intro n a i hi
    show fX9_placedMany_4 σ 462 (n + 1) a (nI i) = _
    rw [fX9_placedMany_4, if_neg (n_ge 12 (m := 12) rfl hi (by decide)), m_isPlaced (p := i) (j_nI (by omega)) hi, j_b]
    unfold fX9_placedMany_24
    cases q : decide (mv (σ.1 463) 9 i ≠ -1)
    · rw [if_neg (by decide), if_neg (by decide), j_nm, j_s]
    · rw [if_pos rfl, if_pos rfl, j_nm, j_s]
  · intro n a
    show fX9_placedMany_4 σ 462 (n + 1) a (nI 12) = _
    rw [fX9_placedMany_4, if_pos (n_le 12 (m := 12) rfl (by decide))]
variable {V : VW} {X : Nat → Bool} {d : Nat → Nat} {wn : Nat → Int} {Y : Nat → Bool}
theorem m_rootOf2 (h : VM (mv (σ.1 463)) V X) (t : Tree V d wn Y) : ∀ (k fuel n : Nat) (a : Int32), a.toInt = n → n < 23 → V 8 n ≠ 3 → ga (V 9) 23 (v_top V k n) = -1 → k < fuel → fX9_rootOf_2 σ 462 fuel a = some (oI (v_top V k n))
  | _, 0, _, _, _, _, _, _, hf => absurd hf (by omega)
  | k, f + 1, n, a, ha, hn, hu, hk, hf => by
    rw [fX9_rootOf_2, m_i1 ha (by omega), j_b, h.pa hn hu]
    by_cases q : V 9 n = -1
    · have st : v_top V k n = n := by
        have := v_top_st V (n := (n : Int)) (k := 0) (by show ga (V 9) 23 n = -1; rw [ga_in hn]; exact q) k
        rw [Nat.zero_add] at this
        exact this
      rw [q, if_pos (show oI (-1) = (-1 : Int32) from rfl), st, ← ha, j_oIt]
    · obtain ⟨s, s1, s2, s3, _, _⟩ := t.pa hn q
      rw [s2, if_neg (by rw [show (-1 : Int32) = oI (-1) from rfl, j_oe (by omega) (by omega) (by omega) (by omega)]; omega), j_b]
      have nx : v_top V (k - 1 + 1) n = v_top V (k - 1) (V 9 n) := by
        show (if ga (V 9) 23 n = -1 then (n : Int) else v_top V (k - 1) (ga (V 9) 23 n)) = _
        rw [ga_in hn, if_neg q]
      have k1 : 1 ≤ k := by
        refine Nat.one_le_iff_ne_zero.mpr (fun z => ?_)
        rw [z] at hk
        have : ga (V 9) 23 n = -1 := hk
        rw [ga_in hn] at this
        exact q this
      rw [show k - 1 + 1 = k by omega, s2] at nx
      rw [nx] at hk ⊢
      exact m_rootOf2 h t (k - 1) f s _ (j_oI (by omega) (by omega)) s1 (by omega) hk (by omega)
theorem m_rootOf (h : VM (mv (σ.1 463)) V X) (t : Tree V d wn Y) {a : Int32} {n : Nat} (ha : a.toInt = n) (hn : n < 23) (hu : V 8 n ≠ 3) : fX9_rootOf σ 462 a = some (oI (v_top V 23 n)) := by
  obtain ⟨m, m1, m2, m3, m4, _⟩ := t.top hn hu
  unfold fX9_rootOf
  exact m_rootOf2 h t 23 FU n a ha hn hu (by rw [m2, ga_in m1]; exact m4) (by decide)
theorem m_windowOf (h : VM (mv (σ.1 463)) V X) (t : Tree V d wn Y) {a : Int32} {n : Nat} (ha : a.toInt = n) (hn : n < 23) (hu : V 8 n ≠ 3) : fX9_windowOf σ 462 a = some (oI (wn n)) := by
  obtain ⟨m, m1, m2, m3, m4, m5⟩ := t.top hn hu
  obtain ⟨w, w1, w2, w3⟩ := t.ro m1 m3 m4
  unfold fX9_windowOf
  rw [m_rootOf h t ha hn hu, j_b, m2, ← m5, w2]
  refine lp (F := fun n s => fX9_windowOf_8 σ 462 n (oI (m : Int)) s) (Q := fun r => r = some (oI (w : Int))) (fun i s => s = nI i) w ?_ ?_ w 0 FU 0 (by omega) (by show _ < 6000; omega) rfl
  · rintro n i _ hi rfl
    refine ⟨nI (i + 1), rfl, ?_⟩
    show fX9_windowOf_8 σ 462 (n + 1) (oI (m : Int)) (nI i) = fX9_windowOf_8 σ 462 n (oI (m : Int)) (nI (i + 1))
    rw [fX9_windowOf_8, m_w0 (w := i) (j_nI (by omega)) (by omega), j_b]
    unfold fX9_windowOf_29
    by_cases q : mv (σ.1 463) 12 i = 0
    · rw [if_pos (by rw [j_eq, t_mv]; exact q), j_s]
    · rw [if_neg (by rw [j_eq, t_mv]; exact q), m_w5 (w := i) (j_nI (by omega)) (by omega), j_b, if_neg, j_s]
      rw [j_eq, t_mv, j_oI (by omega) (by omega)]
      intro z
      have : V 5 i = m := by rw [← h.ro (by omega)]; exact z
      have := t.un (by omega) w1 this w3
      omega
  · rintro n _ rfl
    show fX9_windowOf_8 σ 462 (n + 1) (oI (m : Int)) (nI w) = _
    have e0 : mv (σ.1 463) 12 w = 1 := by
      rw [h.ex w1, if_pos (Or.inr (by omega))]
    have e5 : mv (σ.1 463) 17 w = m := by
      rw [h.ro w1, w3]
    rw [fX9_windowOf_8, m_w0 (w := w) (j_nI (by omega)) (by omega), j_b, e0, if_neg (by decide), m_w5 (w := w) (j_nI (by omega)) (by omega), j_b, e5, if_pos rfl, j_nIo w (by omega)]
theorem m_placedIn (h : VM (mv (σ.1 463)) V X) (t : Tree V d wn Y) {Z : Nat → Bool} (tb : Tabs V Z) (w : Int32) : fX9_placedIn σ 462 w = some (oI (v_pi V w.toInt)) := by
  unfold fX9_placedIn v_pi
  rw [← j_nIo _ (by have := cnt_le (fun p => decide (V 13 p ≠ -1) && decide (v_wo V (V 13 p) = w.toInt)) 12; omega)]
  refine lp_cnt (F := fun n a l => fX9_placedIn_4 σ 462 n w a l) 12 ?_ ?_ FU (by decide)
  · intro n a i hi
    show fX9_placedIn_4 σ 462 (n + 1) w a (nI i) = _
    rw [fX9_placedIn_4, if_neg (n_ge 12 (m := 12) rfl hi (by decide)), m_isPlaced (p := i) (j_nI (by omega)) hi, j_b, h.gr hi]
    unfold fX9_placedIn_37 fX9_placedIn_38
    rcases tb.gr hi with q | ⟨g, g1, g2, g3⟩
    · rw [q, if_neg (by decide), if_neg (by simp), j_nm, j_s]
    · have e9 : mv (σ.1 463) 9 i = g := by rw [h.gr hi, g2]
      rw [if_pos (by rw [decide_eq_true_eq]; omega), m_o3 (p := i) (j_nI (by omega)) hi, j_b, e9, m_windowOf h t (n := g) (j_oI (by omega) (by omega)) g1 (by omega), j_b, g2, t.wo g1 (by omega)]
      obtain ⟨v, v1, v2, _⟩ := t.wr5 g1 (by omega)
      by_cases z : wn g = w.toInt
      · rw [if_pos (by rw [j_eq, j_oI (by omega) (by omega)]; exact z), if_pos (by simp [z]), j_nm, j_s]
      · rw [if_neg (by rw [j_eq, j_oI (by omega) (by omega)]; exact z), if_neg (by simp [z]), j_nm, j_s]
  · intro n a
    show fX9_placedIn_4 σ 462 (n + 1) w a (nI 12) = _
    rw [fX9_placedIn_4, if_pos (n_le 12 (m := 12) rfl (by decide))]
end MR

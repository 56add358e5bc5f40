/-! THE RELATION: the least sizes are small -/
def an (V : VW) (n g : Nat) : Bool := (List.range (dq V g + 1)).any (fun k => decide (v_top V k g = (n : Int)))
def gl (V : VW) (n : Nat) : Nat := cnt (fun g => decide (V 8 g ≠ 3) && an V n g) 23
section GL
variable {V : VW} {d : Nat → Nat} {wn : Nat → Int} {X : Nat → Bool} {mw mh : Nat → Int} {P : VW}
theorem an_iff {n g : Nat} : an V n g = true ↔ ∃ k, k ≤ dq V g ∧ v_top V k g = (n : Int) := by
  unfold an
  rw [List.any_eq_true]
  constructor
  · rintro ⟨k, hk, e⟩
    exact ⟨k, by have := List.mem_range.mp hk; omega, of_decide_eq_true e⟩
  · rintro ⟨k, hk, e⟩
    exact ⟨k, List.mem_range.mpr (by omega), decide_eq_true e⟩
theorem an_self {n : Nat} : an V n n = true := an_iff.mpr ⟨0, by omega, rfl⟩
theorem Tree.dq_top (t : Tree V d wn X) {g : Nat} (hg : g < 23) (hu : V 8 g ≠ 3) : ∀ k, k ≤ dq V g → ∃ m : Nat, m < 23 ∧ v_top V k g = m ∧ V 8 m ≠ 3 ∧ dq V m + k = dq V g
  | 0, _ => ⟨g, hg, rfl, hu, rfl⟩
  | k + 1, h => by
    obtain ⟨m, a, b, c, e⟩ := t.dq_top hg hu k (by omega)
    have nr := (t.dqs hg hu).2.2 k (by omega)
    rw [b, ga_in a] at nr
    obtain ⟨s, hs, es, ks, -⟩ := t.pa a nr
    have := t.dqc a es
    refine ⟨s, hs, ?_, by omega, by omega⟩
    rw [v_top_nx, b, ga_in a, if_neg nr, es]
theorem Tree.an_un (t : Tree V d wn X) {n g c c' : Nat} (hg : g < 23) (hu : V 8 g ≠ 3) (hc : c < 23) (hc' : c' < 23) (e : V 9 c = n) (e' : V 9 c' = n) (a : an V c g = true) (a' : an V c' g = true) : c = c' := by
  obtain ⟨k, hk, ek⟩ := an_iff.mp a
  obtain ⟨k', hk', ek'⟩ := an_iff.mp a'
  obtain ⟨m, -, b, -, x⟩ := t.dq_top hg hu k hk
  obtain ⟨m', -, b', -, x'⟩ := t.dq_top hg hu k' hk'
  have := t.dqc hc e
  have := t.dqc hc' e'
  have : m = c := by omega
  subst this
  have : m' = c' := by omega
  subst this
  have : k = k' := by omega
  subst this
  omega
theorem Tree.an_up (t : Tree V d wn X) {n g c : Nat} (hg : g < 23) (hu : V 8 g ≠ 3) (hc : c < 23) (e : V 9 c = n) (a : an V c g = true) : an V n g = true := by
  obtain ⟨k, hk, ek⟩ := an_iff.mp a
  have : k ≠ dq V g := fun z => by
    have := (t.dqs hg hu).2.1
    rw [← z, ek, ga_in hc, e] at this
    omega
  refine an_iff.mpr ⟨k + 1, by omega, ?_⟩
  rw [v_top_nx, ek, ga_in hc, e, if_neg (by omega)]
theorem cnt_le1 {c : Nat → Bool} {n : Nat} (h : ∀ i k, i < n → k < n → c i = true → c k = true → i = k) : cnt c n ≤ 1 := by
  refine Classical.byContradiction (fun no => ?_)
  obtain ⟨i, hi, ci⟩ := cnt_ex (c := c) (n := n) (by omega)
  obtain ⟨k, hk, ne, ck⟩ := cnt_two (by omega) hi ci
  exact ne (h k i hk hi ck ci)
theorem Tree.gl_le (t : Tree V d wn X) (n : Nat) : sm (fun c => if V 9 c = n then (gl V c : Int) else 0) 23 ≤ gl V n := by
  have e1 : sm (fun c => if V 9 c = n then (gl V c : Int) else 0) 23 = sm (fun c => sm (fun g => if (decide (V 9 c = n) && (decide (V 8 g ≠ 3) && an V c g)) then (1 : Int) else 0) 23) 23 := by
    refine sm_congr (fun c hc => ?_)
    by_cases q : V 9 c = n
    · rw [if_pos q]
      unfold gl
      rw [← sm_cnt]
      refine sm_congr (fun g _ => ?_)
      rw [decide_eq_true q, Bool.true_and]
    · rw [if_neg q, ← sm_0 23]
      refine sm_congr (fun g _ => ?_)
      rw [decide_eq_false q, Bool.false_and]
      rfl
  rw [e1, sm_swap]
  unfold gl
  rw [← sm_cnt]
  refine sm_le (fun g hg => ?_)
  show sm (fun c => if (decide (V 9 c = n) && (decide (V 8 g ≠ 3) && an V c g)) then (1 : Int) else 0) 23 ≤ if (decide (V 8 g ≠ 3) && an V n g) then 1 else 0
  rw [sm_cnt (fun c => decide (V 9 c = n) && (decide (V 8 g ≠ 3) && an V c g))]
  have one : cnt (fun c => decide (V 9 c = n) && (decide (V 8 g ≠ 3) && an V c g)) 23 ≤ 1 := cnt_le1 (fun i k hi hk a b => by
    simp only [Bool.and_eq_true, decide_eq_true_eq] at a b
    exact t.an_un hg a.2.1 hi hk a.1 b.1 a.2.2 b.2.2)
  cases q : (decide (V 8 g ≠ 3) && an V n g)
  · have : cnt (fun c => decide (V 9 c = n) && (decide (V 8 g ≠ 3) && an V c g)) 23 = 0 := cnt_zero.mpr (fun c hc => by
      cases z : (decide (V 9 c = n) && (decide (V 8 g ≠ 3) && an V c g))
      · rfl
      · simp only [Bool.and_eq_true, decide_eq_true_eq] at z
        rw [decide_eq_true z.2.1, t.an_up hg z.2.1 hc z.1 z.2.2] at q
        cases q)
    rw [this]
    decide
  · rw [if_pos rfl]
    omega
theorem gl_pos {n : Nat} (hn : n < 23) (hu : V 8 n ≠ 3) : 1 ≤ gl V n ∧ gl V n ≤ 23 := ⟨cnt_pos hn (by rw [decide_eq_true hu, an_self]; rfl), cnt_le _ _⟩
theorem gx_40 {c : Nat → Bool} {f : Nat → Int} (h : ∀ p, p < 12 → 0 ≤ f p ∧ f p ≤ 40) : 0 ≤ gx c f 12 ∧ gx c f 12 ≤ 40 := by
  obtain ⟨a, -, r⟩ := gx_le c f 12
  refine ⟨a, ?_⟩
  rcases r with z | ⟨x, hx, -, e⟩
  · omega
  · have := h x hx
    omega
theorem Sm_sub {V : VW} {n : Nat} {pl : List Nat} (hd : pl.Nodup) (hm : ∀ x ∈ pl, x < 23 ∧ V 9 x = n) (f : Nat → Int) (h0 : ∀ c, 0 ≤ f c) : Sm f pl ≤ sm (fun c => if V 9 c = n then f c else 0) 23 := by
  rw [list_sm f hd (fun x hx => (hm x hx).1)]
  refine sm_le (fun c _ => ?_)
  show (if c ∈ pl then f c else 0) ≤ if V 9 c = n then f c else 0
  have := h0 c
  by_cases q : c ∈ pl
  · rw [if_pos q, if_pos (hm c q).2]
    exact Int.le_refl _
  · rw [if_neg q]
    split <;> omega
theorem Sm_len (f : Nat → Int) : ∀ (l : List Nat), Sm (fun c => f c + 1) l = Sm f l + l.length
  | [] => rfl
  | c :: t => by
    unfold Sm
    rw [Sm_len f t, List.length_cons]
    omega
theorem bdA {A : Nat → Prop} (t : Tree V d wn X) (hA : ∀ c s : Nat, c < 23 → A s → V 9 c = s → A c) (hG : ∀ n, n < 23 → A n → V 8 n = 2 → LG V mw mh P n) (hS : ∀ n, n < 23 → A n → V 8 n ≤ 1 → LT V P n) (hw : ∀ p, p < 12 → 0 ≤ mw p ∧ mw p ≤ 40) (hh : ∀ p, p < 12 → 0 ≤ mh p ∧ mh p ≤ 40) : ∀ (j n : Nat), 22 ≤ dq V n + j → n < 23 → A n → V 8 n ≠ 3 → P 1 n = 1 → ∀ i, (i = 2 ∨ i = 3) → 0 ≤ P i n ∧ P i n + 1 ≤ 42 * (gl V n : Int) := by
  have grp : ∀ n, n < 23 → A n → V 8 n = 2 → P 1 n = 1 → ∀ i, (i = 2 ∨ i = 3) → 0 ≤ P i n ∧ P i n + 1 ≤ 42 * (gl V n : Int) := fun n hn hAn k q i hi => by
    obtain ⟨x, y⟩ := (hG n hn hAn k).2.2 q
    have a := gx_40 (c := vis V n) hw
    have b := gx_40 (c := vis V n) hh
    have := (gl_pos (V := V) hn (by omega)).1
    rcases hi with rfl | rfl <;> omega
  have spl : ∀ n, n < 23 → A n → V 8 n ≤ 1 → P 1 n = 1 → (∀ c, c < 23 → V 9 c = n → P 1 c = 1 → ∀ i, (i = 2 ∨ i = 3) → 0 ≤ P i c ∧ P i c + 1 ≤ 42 * (gl V c : Int)) → ∀ i, (i = 2 ∨ i = 3) → 0 ≤ P i n ∧ P i n + 1 ≤ 42 * (gl V n : Int) := fun n hn hAn k q ch i hi => by
    obtain ⟨-, b, c⟩ := hS n hn hAn k
    obtain ⟨x, hx, ex, qx⟩ := b.mp q
    obtain ⟨e1, e2⟩ := c q
    have mem : ∀ c ∈ pls V P n, c < 23 ∧ V 9 c = n ∧ P 1 c = 1 := fun c hc => (t.pls_mem hn k).mp hc
    have glp := gl_pos (V := V) hn (by omega)
    have tot : ∀ i, (i = 2 ∨ i = 3) → 0 ≤ Sm (P i) (pls V P n) ∧ Sm (P i) (pls V P n) + (pls V P n).length ≤ 42 * (gl V n : Int) := fun i hi => by
      refine ⟨Sm_nn (fun c hc => (ch c (mem c hc).1 (mem c hc).2.1 (mem c hc).2.2 i hi).1), ?_⟩
      rw [← Sm_len]
      refine Int.le_trans (Sm_le (g := fun c => 42 * (gl V c : Int)) (fun c hc => (ch c (mem c hc).1 (mem c hc).2.1 (mem c hc).2.2 i hi).2)) ?_
      rw [Sm_mul]
      have a := Sm_sub (V := V) (n := n) (t.pls_nd (P := P) hn k) (fun x hx => ⟨(mem x hx).1, (mem x hx).2.1⟩) (fun c => (gl V c : Int)) (fun c => by omega)
      have b := t.gl_le n
      omega
    have one : ∀ i, (i = 2 ∨ i = 3) → 0 ≤ lgx (P i) (pls V P n) ∧ lgx (P i) (pls V P n) + 1 ≤ 42 * (gl V n : Int) := fun i hi => by
      obtain ⟨a, -, r⟩ := lgx_le (P i) (l := pls V P n)
      refine ⟨a, ?_⟩
      rcases r with z | ⟨y, hy, e⟩
      · omega
      · obtain ⟨t0, t1⟩ := tot i hi
        have := Sm_mem (f := fun c => P i c + 1) (l := pls V P n) (fun c hc => by
          have := (ch c (mem c hc).1 (mem c hc).2.1 (mem c hc).2.2 i hi).1
          show 0 ≤ P i c + 1
          omega) hy
        rw [Sm_len] at this
        omega
    have len : 1 ≤ (pls V P n).length := List.length_pos_of_mem ((t.pls_mem hn k).mpr ⟨hx, ex, qx⟩)
    obtain ⟨r1, r2⟩ := t.drs hn k
    have z : dr V n = 0 ∨ dr V n = 1 := by omega
    have raw : ∀ i, (i = 2 ∨ i = 3) → (oI (Sm (P i) (pls V P n) + (pls V P n).length - 1)).toInt = Sm (P i) (pls V P n) + (pls V P n).length - 1 := fun i hi => by
      have := tot i hi
      exact j_oI (by omega) (by omega)
    have a2 := tot 2 (Or.inl rfl)
    have a3 := tot 3 (Or.inr rfl)
    have o2 := one 2 (Or.inl rfl)
    have o3 := one 3 (Or.inr rfl)
    rcases z with z | z
    · rw [z] at e1 e2
      simp only [Nat.add_zero, Nat.sub_zero] at e1 e2
      rw [raw 2 (Or.inl rfl)] at e1
      rcases hi with rfl | rfl <;> omega
    · rw [z] at e1 e2
      simp only [Nat.reduceAdd, Nat.reduceSub] at e1 e2
      rw [raw 3 (Or.inr rfl)] at e1
      rcases hi with rfl | rfl <;> omega
  intro j
  induction j with
  | zero =>
    intro n hq hn hAn hu q
    by_cases k : V 8 n = 2
    · exact grp n hn hAn k q
    · have := t.ki hn
      refine spl n hn hAn (by omega) q (fun c hc e => ?_)
      have a := t.dqc hc e
      have b := (t.dqs hc (t.us hc (by omega))).1
      omega
  | succ j ih =>
    intro n hq hn hAn hu q
    by_cases k : V 8 n = 2
    · exact grp n hn hAn k q
    · have := t.ki hn
      refine spl n hn hAn (by omega) q (fun c hc e => ?_)
      have a := t.dqc hc e
      exact ih c (by omega) hc (hA c n hc hAn e) (t.us hc (by omega))
/-- each least size is from 0 to 965 -/
theorem Lay.ls (t : Tree V d wn X) (hP : Lay V mw mh P) (hw : ∀ p, p < 12 → 0 ≤ mw p ∧ mw p ≤ 40) (hh : ∀ p, p < 12 → 0 ≤ mh p ∧ mh p ≤ 40) {n : Nat} (hn : n < 23) (hu : V 8 n ≠ 3) (q : P 1 n = 1) : (0 ≤ P 2 n ∧ P 2 n ≤ 965) ∧ 0 ≤ P 3 n ∧ P 3 n ≤ 965 := by
  have a := bdA (A := fun _ => True) t (fun _ _ _ _ _ => trivial) (fun n hn _ => hP.1 n hn) (fun n hn _ => hP.2.1 n hn) hw hh 22 n (by omega) hn trivial hu q 2 (Or.inl rfl)
  have b := bdA (A := fun _ => True) t (fun _ _ _ _ _ => trivial) (fun n hn _ => hP.1 n hn) (fun n hn _ => hP.2.1 n hn) hw hh 22 n (by omega) hn trivial hu q 3 (Or.inr rfl)
  have := (gl_pos (V := V) hn hu).2
  omega
end GL

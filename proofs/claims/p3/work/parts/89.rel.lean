/-! THE RELATION: a plan, told by equations; there is but one -/
def vis (V : VW) (n : Nat) (p : Nat) : Bool := decide (V 13 p = n) && decide (V 15 p = 0)
def pls (V P : VW) (n : Nat) : List Nat := (kids V n).filter (fun c => decide (P 1 c = 1))
def lm (pl : List Nat) (f : Nat → Int) : Nat → Int := fun c => if c ∈ pl then f c else 0
def dr (V : VW) (n : Nat) : Nat := (V 8 n).toNat
def LG (V : VW) (mw mh : Nat → Int) (P : VW) (n : Nat) : Prop :=
  (P 1 n = 0 ∨ P 1 n = 1) ∧ (P 1 n = 1 ↔ ∃ p, p < 12 ∧ vis V n p = true) ∧ (P 1 n = 1 → P 2 n = gx (vis V n) mw 12 ∧ P 3 n = gx (vis V n) mh 12 + 1)
def LT (V P : VW) (n : Nat) : Prop :=
  (P 1 n = 0 ∨ P 1 n = 1) ∧ (P 1 n = 1 ↔ ∃ c, c < 23 ∧ V 9 c = n ∧ P 1 c = 1) ∧
  (P 1 n = 1 → P (2 + dr V n) n = (oI (Sm (P (2 + dr V n)) (pls V P n) + (pls V P n).length - 1)).toInt ∧ P (3 - dr V n) n = lgx (P (3 - dr V n)) (pls V P n))
def lrm (V P : VW) (n : Nat) : Int := if 0 < P (6 + dr V n) n - ((pls V P n).length - 1) then P (6 + dr V n) n - ((pls V P n).length - 1) else 0
def lsh (V P : VW) (n : Nat) : Nat → Int := share (pls V P n) (lrm V P n) (lm (pls V P n) (P (2 + dr V n))) (lm (pls V P n) (V 11))
def LA (V P : VW) (n : Nat) : Prop := ∀ k c, (pls V P n)[k]? = some c →
  P (6 + dr V n) c = lsh V P n c ∧ P (7 - dr V n) c = P (7 - dr V n) n ∧ P (4 + dr V n) c = (oI (P (4 + dr V n) n + Sm (fun x => lsh V P n x + 1) ((pls V P n).take k))).toInt ∧ P (5 - dr V n) c = P (5 - dr V n) n
def LR (V P : VW) : Prop := ∀ w n : Nat, w < 5 → V 5 w = n → P 4 n = V 1 w ∧ P 5 n = V 2 w ∧ P 6 n = V 3 w ∧ P 7 n = V 4 w
def Lay (V : VW) (mw mh : Nat → Int) (P : VW) : Prop :=
  (∀ n, n < 23 → V 8 n = 2 → LG V mw mh P n) ∧ (∀ n, n < 23 → V 8 n ≤ 1 → LT V P n) ∧ LR V P ∧ ∀ n, n < 23 → V 8 n ≤ 1 → P 1 n = 1 → LA V P n
section LAY
variable {V : VW} {d : Nat → Nat} {wn : Nat → Int} {X : Nat → Bool} {mw mh : Nat → Int} {P Q : VW}
theorem Tree.drs (h : Tree V d wn X) {n : Nat} (hn : n < 23) (k : V 8 n ≤ 1) : dr V n ≤ 1 ∧ V 8 n = dr V n := by
  have := h.ki hn
  unfold dr
  omega
theorem Tree.pls_mem (h : Tree V d wn X) {n : Nat} (hn : n < 23) (k : V 8 n ≤ 1) {c : Nat} : c ∈ pls V P n ↔ c < 23 ∧ V 9 c = n ∧ P 1 c = 1 := by
  unfold pls
  rw [List.mem_filter, h.kids_mem hn k]
  simp only [decide_eq_true_eq]
  exact ⟨fun ⟨⟨a, b⟩, c⟩ => ⟨a, b, c⟩, fun ⟨a, b, c⟩ => ⟨⟨a, b⟩, c⟩⟩
theorem Tree.pls_nd (h : Tree V d wn X) {n : Nat} (hn : n < 23) (k : V 8 n ≤ 1) : (pls V P n).Nodup := (h.kids_nd hn k).filter _
theorem Tree.pls_len (h : Tree V d wn X) {n : Nat} (hn : n < 23) (k : V 8 n ≤ 1) : (pls V P n).length ≤ 23 := by
  have := list_cnt (N := 23) (l := pls V P n) (fun c => decide (V 9 c = n) && decide (P 1 c = 1)) (h.pls_nd hn k) (fun x => by
    rw [h.pls_mem hn k]
    simp only [Bool.and_eq_true, decide_eq_true_eq])
  have := cnt_le (fun c => decide (V 9 c = n) && decide (P 1 c = 1)) 23
  omega
theorem pls_cg {V : VW} {P Q : VW} {n : Nat} (h : ∀ c, c ∈ kids V n → P 1 c = Q 1 c) : pls V P n = pls V Q n := by
  unfold pls
  exact List.filter_congr (fun c hc => by rw [h c hc])
theorem lm_cg {pl : List Nat} {f g : Nat → Int} (h : ∀ c ∈ pl, f c = g c) : lm pl f = lm pl g := by
  funext c
  unfold lm
  by_cases q : c ∈ pl
  · rw [if_pos q, if_pos q, h c q]
  · rw [if_neg q, if_neg q]
theorem lgx_cg {f g : Nat → Int} : ∀ {l : List Nat}, (∀ c ∈ l, f c = g c) → lgx f l = lgx g l
  | [], _ => rfl
  | c :: t, h => by
    unfold lgx
    rw [h c (List.mem_cons_self ..), lgx_cg (l := t) (fun x hx => h x (List.mem_cons_of_mem _ hx))]
theorem Lay.u1 (t : Tree V d wn X) (hP : Lay V mw mh P) (hQ : Lay V mw mh Q) : ∀ (j n : Nat), 22 ≤ dq V n + j → n < 23 → V 8 n ≠ 3 → P 1 n = Q 1 n ∧ (P 1 n = 1 → P 2 n = Q 2 n ∧ P 3 n = Q 3 n) := by
  have grp : ∀ n, n < 23 → V 8 n = 2 → P 1 n = Q 1 n ∧ (P 1 n = 1 → P 2 n = Q 2 n ∧ P 3 n = Q 3 n) := fun n hn k => by
    obtain ⟨a, b, c⟩ := hP.1 n hn k
    obtain ⟨a', b', c'⟩ := hQ.1 n hn k
    have e : P 1 n = Q 1 n := by
      by_cases q : P 1 n = 1
      · rw [q, b'.mpr (b.mp q)]
      · have : Q 1 n ≠ 1 := fun z => q (b.mpr (b'.mp z))
        omega
    refine ⟨e, fun q => ?_⟩
    obtain ⟨x, y⟩ := c q
    obtain ⟨x', y'⟩ := c' (by omega)
    omega
  have spl : ∀ n, n < 23 → V 8 n ≤ 1 → (∀ c, c < 23 → V 9 c = n → P 1 c = Q 1 c ∧ (P 1 c = 1 → P 2 c = Q 2 c ∧ P 3 c = Q 3 c)) → P 1 n = Q 1 n ∧ (P 1 n = 1 → P 2 n = Q 2 n ∧ P 3 n = Q 3 n) := fun n hn k ch => by
    obtain ⟨a, b, c⟩ := hP.2.1 n hn k
    obtain ⟨a', b', c'⟩ := hQ.2.1 n hn k
    have e : P 1 n = Q 1 n := by
      by_cases q : P 1 n = 1
      · obtain ⟨x, h1, h2, h3⟩ := b.mp q
        rw [q, b'.mpr ⟨x, h1, h2, by rw [← (ch x h1 h2).1]; exact h3⟩]
      · have : Q 1 n ≠ 1 := fun z => by
          obtain ⟨x, h1, h2, h3⟩ := b'.mp z
          exact q (b.mpr ⟨x, h1, h2, by rw [(ch x h1 h2).1]; exact h3⟩)
        omega
    refine ⟨e, fun q => ?_⟩
    have ep : pls V P n = pls V Q n := pls_cg (fun c hc => by
      obtain ⟨x, y⟩ := (t.kids_mem hn k).mp hc
      exact (ch c x y).1)
    obtain ⟨x, y⟩ := c q
    obtain ⟨x', y'⟩ := c' (by omega)
    have m2 : ∀ c ∈ pls V Q n, P 2 c = Q 2 c ∧ P 3 c = Q 3 c := fun c hc => by
      rw [← ep] at hc
      obtain ⟨h1, h2, h3⟩ := (t.pls_mem hn k).mp hc
      exact (ch c h1 h2).2 h3
    obtain ⟨r1, r2⟩ := t.drs hn k
    have : dr V n = 0 ∨ dr V n = 1 := by omega
    rcases this with z | z
    · rw [z] at x y x' y'
      rw [x, y, x', y', ep, Sm_congr (fun c hc => (m2 c hc).1), lgx_cg (fun c hc => (m2 c hc).2)]
      exact ⟨rfl, rfl⟩
    · rw [z] at x y x' y'
      rw [x, y, x', y', ep, Sm_congr (fun c hc => (m2 c hc).2), lgx_cg (fun c hc => (m2 c hc).1)]
      exact ⟨rfl, rfl⟩
  intro j
  induction j with
  | zero =>
    intro n hq hn hu
    by_cases k : V 8 n = 2
    · exact grp n hn k
    · have := t.ki hn
      refine spl n hn (by omega) (fun c hc e => ?_)
      have a := t.dqc hc e
      have b := (t.dqs hc (t.us hc (by omega))).1
      omega
  | succ j ih =>
    intro n hq hn hu
    by_cases k : V 8 n = 2
    · exact grp n hn k
    · have := t.ki hn
      refine spl n hn (by omega) (fun c hc e => ?_)
      have a := t.dqc hc e
      exact ih c (by omega) hc (t.us hc (by omega))
theorem Lay.sh (t : Tree V d wn X) (hP : Lay V mw mh P) {c s : Nat} (hc : c < 23) (e : V 9 c = s) (q : P 1 c = 1) : P 1 s = 1 := by
  obtain ⟨hs, ks, -⟩ := t.par hc e
  exact (hP.2.1 s hs ks).2.1.mpr ⟨c, hc, e, q⟩
theorem Lay.u2 (t : Tree V d wn X) (hP : Lay V mw mh P) (hQ : Lay V mw mh Q) : ∀ (j n : Nat), dq V n ≤ j → n < 23 → V 8 n ≠ 3 → P 1 n = 1 → P 4 n = Q 4 n ∧ P 5 n = Q 5 n ∧ P 6 n = Q 6 n ∧ P 7 n = Q 7 n := by
  have u : ∀ n, n < 23 → V 8 n ≠ 3 → P 1 n = Q 1 n ∧ (P 1 n = 1 → P 2 n = Q 2 n ∧ P 3 n = Q 3 n) := fun n hn hu => hP.u1 t hQ 22 n (by omega) hn hu
  have root : ∀ n, n < 23 → V 8 n ≠ 3 → V 9 n = -1 → P 4 n = Q 4 n ∧ P 5 n = Q 5 n ∧ P 6 n = Q 6 n ∧ P 7 n = Q 7 n := fun n hn hu e => by
    obtain ⟨w, hw, -, e5⟩ := t.ro hn hu e
    obtain ⟨a, b, c, d⟩ := hP.2.2.1 w n hw e5
    obtain ⟨a', b', c', d'⟩ := hQ.2.2.1 w n hw e5
    omega
  intro j
  induction j with
  | zero =>
    intro n hq hn hu q
    by_cases e : V 9 n = -1
    · exact root n hn hu e
    · obtain ⟨s, -, es, -⟩ := t.pa hn e
      have := t.dqc hn es
      omega
  | succ j ih =>
    intro n hq hn hu q
    by_cases e : V 9 n = -1
    · exact root n hn hu e
    · obtain ⟨s, hs, es, ks, -⟩ := t.pa hn e
      have := t.dqc hn es
      have qs := hP.sh t hn es q
      obtain ⟨i4, i5, i6, i7⟩ := ih s (by omega) hs (by omega) qs
      have ep : pls V P s = pls V Q s := pls_cg (fun c hc => by
        obtain ⟨x, y⟩ := (t.kids_mem hs ks).mp hc
        exact (u c x (t.us x (by omega))).1)
      have m2 : ∀ c ∈ pls V Q s, P 2 c = Q 2 c ∧ P 3 c = Q 3 c := fun c hc => by
        rw [← ep] at hc
        obtain ⟨h1, h2, h3⟩ := (t.pls_mem hs ks).mp hc
        exact (u c h1 (t.us h1 (by omega))).2 h3
      obtain ⟨k, hk⟩ := List.mem_iff_getElem?.mp ((t.pls_mem hs ks).mpr ⟨hn, es, q⟩)
      have A := hP.2.2.2 s hs ks qs k n hk
      have qs' : Q 1 s = 1 := by rw [← (u s hs (by omega)).1]; exact qs
      have B := hQ.2.2.2 s hs ks qs' k n (by rw [← ep]; exact hk)
      obtain ⟨r1, r2⟩ := t.drs hs ks
      have z : dr V s = 0 ∨ dr V s = 1 := by omega
      have er : lsh V P s = lsh V Q s := by
        unfold lsh lrm
        rw [ep]
        rcases z with z | z
        · rw [z]
          simp only [Nat.add_zero]
          rw [i6, lm_cg (f := P 2) (g := Q 2) (fun c hc => (m2 c hc).1)]
        · rw [z]
          simp only [Nat.reduceAdd]
          rw [i7, lm_cg (f := P 3) (g := Q 3) (fun c hc => (m2 c hc).2)]
      rw [er, ep] at A
      rcases z with z | z
      · rw [z] at A B
        simp only [Nat.add_zero, Nat.sub_zero] at A B
        obtain ⟨a, b, c, d⟩ := A
        obtain ⟨a', b', c', d'⟩ := B
        rw [a, b, c, d, a', b', c', d', i4, i5, i7]
        exact ⟨rfl, rfl, rfl, rfl⟩
      · rw [z] at A B
        simp only [Nat.reduceAdd, Nat.reduceSub] at A B
        obtain ⟨a, b, c, d⟩ := A
        obtain ⟨a', b', c', d'⟩ := B
        rw [a, b, c, d, a', b', c', d', i4, i5, i6]
        exact ⟨rfl, rfl, rfl, rfl⟩
end LAY

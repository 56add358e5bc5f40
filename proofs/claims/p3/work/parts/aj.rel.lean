/-! THE RELATION: drag, the class's weights -/
section RAJ
theorem k_ge {a b : Int64} : 0 ≤ (lg_cmp a b) ↔ b.toInt ≤ a.toInt := by rw [lg_cmp_ge, Int64.le_iff_toInt_le]
theorem k_lt {a b : Int64} : a < b ↔ a.toInt < b.toInt := Int64.lt_iff_toInt_lt
/-- the extents of what is shown lie within -/
theorem Lay.bx {V : VW} {mw mh : Nat → Int} {P : VW} {d : Nat → Nat} {wn : Nat → Int} {X : Nat → Bool} (t : Tree V d wn X) (ge : Geo V) (h : Lay V mw mh P) (hw : ∀ p, p < 12 → 0 ≤ mw p ∧ mw p ≤ 40) (hh : ∀ p, p < 12 → 0 ≤ mh p ∧ mh p ≤ 40) : ∀ (j n : Nat), dq V n ≤ j → n < 23 → V 8 n ≠ 3 → P 1 n = 1 → Bx P n := by
  have EMa : ∀ n, n < 23 → V 8 n ≠ 3 → EM V mw mh P n := fun n hn hu => ⟨h.1 n hn, h.2.1 n hn⟩
  intro j
  induction j with
  | zero =>
    intro n hd hn hu p
    have q9 : V 9 n = -1 := by
      refine Classical.byContradiction (fun q9 => ?_)
      obtain ⟨u, hu23, e, -⟩ := t.pa hn q9
      have := t.dqc hn e
      omega
    obtain ⟨w, hw5, -, e5⟩ := t.ro hn hu q9
    obtain ⟨-, -, l6, l7⟩ := h.2.2.1 w n hw5 e5
    obtain ⟨-, -, g3, g4⟩ := ge w hw5
    unfold Bx
    rw [l6, l7]
    omega
  | succ j ih =>
    intro n hd hn hu p
    by_cases q9 : V 9 n = -1
    · exact ih n (by rw [t.dqr hn q9]; omega) hn hu p
    · obtain ⟨u, hu23, e, ku, -, -⟩ := t.pa hn q9
      have du := t.dqc hn e
      have uu : V 8 u ≠ 3 := by omega
      have pu : P 1 u = 1 := (h.2.1 u hu23 ku).2.1.mpr ⟨n, hn, e, p⟩
      have la := h.2.2.2 u hu23 ku pu
      have np : n ∈ pls V P u := (t.pls_mem hu23 ku).mpr ⟨hn, e, p⟩
      obtain ⟨a, ga⟩ := List.mem_iff_getElem?.mp np
      obtain ⟨w1, w2, -, -⟩ := la a n ga
      have bu := ih u (by omega) hu23 uu pu
      obtain ⟨d1, d2⟩ := t.drs hu23 ku
      have nd := t.pls_nd (P := P) hu23 ku
      have len := t.pls_len (P := P) hu23 ku
      have memu := fun c => t.pls_mem (P := P) hu23 ku (c := c)
      have lmv : ∀ f c, c ∈ pls V P u → lm (pls V P u) f c = f c := fun f c hc => if_pos hc
      have z : dr V u = 0 ∨ dr V u = 1 := by omega
      have rmB : 0 ≤ lrm V P u ∧ lrm V P u ≤ 400 := by
        have : 0 ≤ P (6 + dr V u) u ∧ P (6 + dr V u) u ≤ 400 := by
          rcases z with z | z
          · rw [z]; exact bu.1
          · rw [z]; exact bu.2
        have lp1 : 1 ≤ (pls V P u).length := by
          cases hp : pls V P u with
          | nil => rw [hp] at np; cases np
          | cons y u => simp
        unfold lrm
        split <;> omega
      have sh := share_rg (pl := pls V P u) (room := lrm V P u) (m := lm (pls V P u) (P (2 + dr V u))) (w := lm (pls V P u) (V 11)) ⟨nd, fun c hc => by
        rw [lmv _ c hc]
        exact (EM.ls t EMa hw hh ((memu c).mp hc).1 (t.us ((memu c).mp hc).1 (by have := ((memu c).mp hc).2.1; omega)) ((memu c).mp hc).2.2 _ (by omega)).1, fun c hc => by
        rw [lmv _ c hc]
        exact (t.we ((memu c).mp hc).1 (by have := ((memu c).mp hc).2.1; omega)).1⟩ rmB.1 (by omega) np
      have w1 : P (6 + dr V u) n = share _ _ _ _ n := w1
      unfold Bx
      rcases z with z | z
      · rw [z] at w1 w2 sh
        exact ⟨⟨by rw [w1]; exact sh.1, by rw [w1]; omega⟩, by rw [w2]; exact bu.2.1, by rw [w2]; exact bu.2.2⟩
      · rw [z] at w1 w2 sh
        exact ⟨⟨by rw [w2]; exact bu.1.1, by rw [w2]; exact bu.1.2⟩, by rw [w1]; exact sh.1, by rw [w1]; omega⟩
/-! how far a divider moves, and the weights then -/
def mvI (P : VW) (D a b : Nat) (by_ : Int) : Int := if P (6 + D) a - P (2 + D) a < 0 then 0 else if 0 ≤ P (6 + D) b - P (2 + D) b then (if -(P (6 + D) a - P (2 + D) a) < (if P (6 + D) b - P (2 + D) b < by_ then P (6 + D) b - P (2 + D) b else by_) then (if P (6 + D) b - P (2 + D) b < by_ then P (6 + D) b - P (2 + D) b else by_) else -(P (6 + D) a - P (2 + D) a)) else 0
def chg (a b : Nat) (x : Int) (n : Nat) : Int := if n = a then x else if n = b then -x else 0
def wsz (P : VW) (D a b : Nat) (x : Int) (n : Nat) : Int := if 1 < 100 * (P (6 + D) n + chg a b x n) then 100 * (P (6 + D) n + chg a b x n) else 1
def wcl (V : VW) (T B : Int) (n : Nat) : Int := if V 11 n * T / B < 1 then 1 else if 1000000 < V 11 n * T / B then 1000000 else V 11 n * T / B
def wG (V P : VW) (D a b s : Nat) (x : Int) (n : Nat) : Int := if P 1 n = 1 then wsz P D a b x n else wcl V (Sm (wsz P D a b x) (pls V P s)) (Sm (V 11) (pls V P s)) n
theorem s_min {σ : Sg} {p l3 : Int32} {D : Nat} (hD : (l3 = 0 ∧ D = 0) ∨ (¬ l3 = 0 ∧ D = 1)) : fX2_minimumOf σ 422 p l3 = some (oI (ga (qv σ (2 + D)) 23 p.toInt)) := by
  unfold fX2_minimumOf fX2_minimumOf_15
  rcases hD with ⟨z, rfl⟩ | ⟨z, rfl⟩
  · rw [if_pos z, show (422 + 2 : Nat) = 422 + 2 from rfl, s_q (j := 2) (by decide) (by decide), j_b]
  · rw [if_neg z, show (422 + 3 : Nat) = 422 + 3 from rfl, s_q (j := 3) (by decide) (by decide), j_b]
theorem s_ex2 {σ : Sg} {p l3 : Int32} {D : Nat} (hD : (l3 = 0 ∧ D = 0) ∨ (¬ l3 = 0 ∧ D = 1)) : fX2_extentOf σ 422 p l3 = some (oI (ga (qv σ (6 + D)) 23 p.toInt)) := by
  unfold fX2_extentOf fX2_extentOf_15
  rcases hD with ⟨z, rfl⟩ | ⟨z, rfl⟩
  · rw [if_pos z, s_q (j := 6) (by decide) (by decide), j_b]
  · rw [if_neg z, s_q (j := 7) (by decide) (by decide), j_b]
theorem s_step {σ : Sg} {P : VW} (hP : qv σ = P) {l3 : Int32} {D : Nat} (hD : (l3 = 0 ∧ D = 0) ∨ (¬ l3 = 0 ∧ D = 1)) {a b : Nat} (ha : a < 23) (hb : b < 23) {by_ : Int32} (ba : (0 ≤ P (6 + D) a ∧ P (6 + D) a ≤ 400) ∧ 0 ≤ P (2 + D) a ∧ P (2 + D) a ≤ 965) (bb : (0 ≤ P (6 + D) b ∧ P (6 + D) b ≤ 400) ∧ 0 ≤ P (2 + D) b ∧ P (2 + D) b ≤ 965) : fX2_dividerStep σ 422 (oI (a : Int)) (oI (b : Int)) l3 by_ = some (oI (mvI P D a b by_.toInt)) := by
  subst hP
  have ta : (oI (a : Int)).toInt = a := j_oI (by omega) (by omega)
  have tb : (oI (b : Int)).toInt = b := j_oI (by omega) (by omega)
  unfold fX2_dividerStep
  rw [s_ex2 hD, j_b, s_min hD, j_b, j_nm, s_ex2 hD, j_b, s_min hD, j_b, j_nm, ta, tb, ga_in ha, ga_in ha, ga_in hb, ga_in hb, j_os, j_os]
  generalize hx : qv σ (6 + D) a - qv σ (2 + D) a = x
  generalize hy : qv σ (6 + D) b - qv σ (2 + D) b = y
  have tx : (oI x).toInt = x := j_oI (by omega) (by omega)
  have ty : (oI y).toInt = y := j_oI (by omega) (by omega)
  unfold mvI
  rw [hx, hy]
  by_cases z : x < 0
  · rw [if_pos z, if_pos (by rw [j_lt, tx, jz0]; exact z)]
    rfl
  · rw [if_neg z, if_neg (fun w => z (by rw [j_lt, tx, jz0] at w; exact w))]
    by_cases z2 : 0 ≤ y
    · rw [if_pos z2, if_pos (by rw [j_le, ty, jz0]; exact z2), j_nm, j_nm]
      have e7 : (if oI y < by_ then oI y else by_) = oI (if y < by_.toInt then y else by_.toInt) := by
        by_cases w : y < by_.toInt
        · rw [if_pos w, if_pos (by rw [j_lt, ty]; exact w)]
        · rw [if_neg w, if_neg (fun v => w (by rw [j_lt, ty] at v; exact v)), j_oIt]
      rw [e7]
      have bl := j_lo by_
      have t7 : (oI (if y < by_.toInt then y else by_.toInt)).toInt = if y < by_.toInt then y else by_.toInt := by
        refine j_oI ?_ ?_ <;> split <;> omega
      have tn : (-(oI x)).toInt = -x := by
        have : -(oI x) = oI (-x) := by
          refine j_eq.mpr ?_
          rw [Int32.toInt_neg, tx, j_oI (by omega) (by omega), Int.bmod_def]
          split <;> omega
        rw [this, j_oI (by omega) (by omega)]
      have en : -(oI x) = oI (-x) := j_eq.mpr (by rw [tn, j_oI (by omega) (by omega)])
      by_cases w : -x < (if y < by_.toInt then y else by_.toInt)
      · rw [if_pos w, if_pos (by rw [j_lt, tn, t7]; exact w)]
      · rw [if_neg w, if_neg (fun v => w (by rw [j_lt, tn, t7] at v; exact v)), en]
    · rw [if_neg z2, if_neg (fun w => z2 (by rw [j_le, ty, jz0] at w; exact w))]
      rfl
theorem mvI_rg {P : VW} {D a b : Nat} {by_ : Int} (ba : (0 ≤ P (6 + D) a ∧ P (6 + D) a ≤ 400) ∧ 0 ≤ P (2 + D) a) (bb : (0 ≤ P (6 + D) b ∧ P (6 + D) b ≤ 400) ∧ 0 ≤ P (2 + D) b) : -400 ≤ mvI P D a b by_ ∧ mvI P D a b by_ ≤ 400 := by
  unfold mvI
  repeat' split
  all_goals omega
theorem wsz_rg {P : VW} {D a b n : Nat} {x : Int} (hx : -400 ≤ x ∧ x ≤ 400) (bn : 0 ≤ P (6 + D) n ∧ P (6 + D) n ≤ 400) : 1 ≤ wsz P D a b x n ∧ wsz P D a b x n ≤ 80000 := by
  unfold wsz chg
  repeat' split
  all_goals omega
end RAJ

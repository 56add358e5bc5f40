/-! THE RELATION: the class's plan, measured -/
/-- the plan's rows: 1 shown, 2 and 3 least sizes, 4 to 7 the rectangle -/
def qv (σ : Sg) : VW := fun j i => if 1 ≤ j ∧ j ≤ 7 ∧ i < 23 then (σ.1 (422 + j) i).toInt else 0
section QV
variable {σ : Sg} {V : VW} {d : Nat → Nat} {wn : Nat → Int} {X : Nat → Bool} {mw mh : Nat → Int}
theorem qv_at {j i : Nat} (h1 : 1 ≤ j) (h7 : j ≤ 7) (hi : i < 23) : qv σ j i = (σ.1 (422 + j) i).toInt := if_pos ⟨h1, h7, hi⟩
theorem qv_eq {σ σ' : Sg} {j i : Nat} (h : σ'.1 (422 + j) i = σ.1 (422 + j) i) : qv σ' j i = qv σ j i := by
  unfold qv
  by_cases q : 1 ≤ j ∧ j ≤ 7 ∧ i < 23
  · rw [if_pos q, if_pos q, h]
  · rw [if_neg q, if_neg q]
theorem qv_out {σ σ' : Sg} {lo hi j : Nat} (h : Out σ σ' lo hi) (hj : 422 + j < lo ∨ hi < 422 + j) : qv σ' j = qv σ j := by
  funext i
  exact qv_eq (by rw [h.2 _ hj])
theorem pv_cg {σ σ' : Sg} (h : ∀ j, j ≤ 21 → σ'.1 j = σ.1 j) : pv σ' 6 = pv σ 6 := by
  funext j i
  unfold pv
  by_cases q : j ≤ 15
  · rw [h (6 + j) (by omega)]
  · simp only [inr_hi i (Or.inr (show 16 ≤ j by omega)), Bool.false_eq_true, if_false]
theorem pv_oc {σ σ' : Sg} {lo hi : Nat} (h : Out σ σ' lo hi) (hj : 100 ≤ lo) : pv σ' 6 = pv σ 6 := pv_cg (fun j hq => h.2 j (Or.inl (by omega)))
/-- a group's measure -/
theorem s_measureGroup (tb : Tabs (pv σ 6) X) (hw : ∀ p, p < 12 → (0 ≤ rw12 (σ.1 2) p ∧ rw12 (σ.1 2) p ≤ 40) ∧ (pv σ 6 13 p ≠ -1 → 1 ≤ rw12 (σ.1 2) p)) (hh : ∀ p, p < 12 → 0 ≤ rw12 (σ.1 3) p ∧ rw12 (σ.1 3) p ≤ 40) {n : Nat} (hn : n < 23) : ∃ σ', fX2_measureGroup σ 422 1 (nI n) = some σ' ∧ Out σ σ' 423 425 ∧ (∀ j i, i ≠ n → σ'.1 j i = σ.1 j i) ∧ LG (pv σ 6) (rw12 (σ.1 2)) (rw12 (σ.1 3)) (qv σ') n := by
  refine lp (F := fun k (s : Int32 × Int32 × Int32) => fX2_measureGroup_8 422 1 k σ (nI n) s.1 s.2.1 s.2.2) (Q := fun r => ∃ σ', r = some σ' ∧ Out σ σ' 423 425 ∧ (∀ j i, i ≠ n → σ'.1 j i = σ.1 j i) ∧ LG (pv σ 6) (rw12 (σ.1 2)) (rw12 (σ.1 3)) (qv σ') n) (fun i s => s.1.toInt = gx (vis (pv σ 6) n) (rw12 (σ.1 2)) i ∧ s.2.1.toInt = gx (vis (pv σ 6) n) (rw12 (σ.1 3)) i ∧ s.2.2 = nI i) 12 ?_ ?_ 12 0 FU (0, 0, 0) rfl (by decide) ⟨rfl, rfl, rfl⟩
  · rintro k i ⟨a, b, l⟩ hi ⟨ha, hb, rfl⟩
    simp only at ha hb
    have ei : (nI i).toInt = i := j_nI (by omega)
    have g13 : ga (pv σ 6 13) 12 (nI i).toInt = pv σ 6 13 i := by rw [ei]; exact ga_in hi
    have g15 : v_hd (pv σ 6) (nI i).toInt = decide (pv σ 6 15 i = 1) := by
      unfold v_hd
      rw [ei, ga_in hi]
    show ∃ s' : Int32 × Int32 × Int32, _ ∧ fX2_measureGroup_8 422 1 (k + 1) σ (nI n) a b (nI i) = _
    have t13 : (oI (pv σ 6 13 i) = nI n) ↔ pv σ 6 13 i = n := by
      have := t_ga (σ := σ) (b := 6) (j := 13) (n := 12) (p := (i : Int))
      rw [ga_in hi] at this
      rw [j_eq, this, j_nI (by omega)]
    rw [fX2_measureGroup_8, if_neg (n_ge 12 (m := 12) rfl hi (by decide)), s_groupOf, j_b, g13]
    have gxs : ∀ f, gx (vis (pv σ 6) n) f (i + 1) = if vis (pv σ 6) n i then (if gx (vis (pv σ 6) n) f i < f i then f i else gx (vis (pv σ 6) n) f i) else gx (vis (pv σ 6) n) f i := fun f => rfl
    by_cases q : pv σ 6 13 i = n
    · rw [if_pos (t13.mpr q), s_isHidden, j_b, g15]
      by_cases z : pv σ 6 15 i = 1
      · rw [if_pos (decide_eq_true z), fX2_measureGroup_70, j_s]
        have v0 : vis (pv σ 6) n i = false := by
          unfold vis
          rw [decide_eq_false (p := pv σ 6 15 i = 0) (by omega), Bool.and_false]
        refine ⟨(a, b, nI (i + 1)), ⟨?_, ?_, rfl⟩, rfl⟩
        · rw [gxs, v0]
          exact ha
        · rw [gxs, v0]
          exact hb
      · rw [if_neg (by rw [decide_eq_false z]; decide)]
        have v1 : vis (pv σ 6) n i = true := by
          unfold vis
          rw [decide_eq_true q, decide_eq_true ((tb.hi hi).elim id (fun y => absurd y z))]
          rfl
        rw [show (1 + 1 : Nat) = 2 from rfl, s_atn (by decide) hi, j_b, j_nm, show (1 + 2 : Nat) = 3 from rfl, s_atn (by decide) hi, j_b, j_nm, fX2_measureGroup_70, j_s]
        have r2 : rw12 (σ.1 2) i = (σ.1 2 i).toInt := if_pos hi
        have r3 : rw12 (σ.1 3) i = (σ.1 3 i).toInt := if_pos hi
        refine ⟨(_, _, nI (i + 1)), ⟨?_, ?_, rfl⟩, rfl⟩
        · rw [gxs, v1, ← ha, r2]
          show (if a < σ.1 2 i then σ.1 2 i else a).toInt = _
          by_cases y : a < σ.1 2 i
          · rw [if_pos y]
            simp only [if_true, if_pos (j_lt.mp y)]
          · rw [if_neg y]
            simp only [if_true, if_neg (fun x => y (j_lt.mpr x))]
        · rw [gxs, v1, ← hb, r3]
          show (if b < σ.1 3 i then σ.1 3 i else b).toInt = _
          by_cases y : b < σ.1 3 i
          · rw [if_pos y]
            simp only [if_true, if_pos (j_lt.mp y)]
          · rw [if_neg y]
            simp only [if_true, if_neg (fun x => y (j_lt.mpr x))]
    · rw [if_neg (fun y => q (t13.mp y)), fX2_measureGroup_70, j_s]
      have v0 : vis (pv σ 6) n i = false := by
        unfold vis
        rw [decide_eq_false q, Bool.false_and]
      refine ⟨(a, b, nI (i + 1)), ⟨?_, ?_, rfl⟩, rfl⟩
      · rw [gxs, v0]
        exact ha
      · rw [gxs, v0]
        exact hb
  · rintro k ⟨a, b, l⟩ ⟨ha, hb, rfl⟩
    simp only at ha hb
    have h90 : ∀ s : Int32, fX2_measureGroup_90 422 1 σ (nI n) a b (nI n) s = some (su (su (su σ 423 n s) 424 n a) 425 n (b + 1)) := fun s => by
      unfold fX2_measureGroup_90
      rw [show (422 + 1 : Nat) = 423 from rfl, s_putn (by decide) hn, j_b, show (422 + 2 : Nat) = 424 from rfl, s_putn (by decide) hn, j_b, show (422 + 3 : Nat) = 425 from rfl, s_putn (by decide) hn, j_b]
    have g2 := gx_40 (c := vis (pv σ 6) n) (f := rw12 (σ.1 2)) (fun p hp => (hw p hp).1)
    have g3 := gx_40 (c := vis (pv σ 6) n) (f := rw12 (σ.1 3)) hh
    have ap : (0 : Int) < gx (vis (pv σ 6) n) (rw12 (σ.1 2)) 12 ↔ ∃ p, p < 12 ∧ vis (pv σ 6) n p = true := by
      obtain ⟨-, y, r⟩ := gx_le (vis (pv σ 6) n) (rw12 (σ.1 2)) 12
      constructor
      · intro z
        rcases r with r | ⟨x, hx, vx, -⟩
        · omega
        · exact ⟨x, hx, vx⟩
      · rintro ⟨p, hp, vp⟩
        have := y p hp vp
        unfold vis at vp
        simp only [Bool.and_eq_true, decide_eq_true_eq] at vp
        have := (hw p hp).2 (by omega)
        omega
    have res : ∀ s : Int32, (s = 0 ∨ s = 1) → (s = 1 ↔ ∃ p, p < 12 ∧ vis (pv σ 6) n p = true) → ∃ σ', some (su (su (su σ 423 n s) 424 n a) 425 n (b + 1)) = some σ' ∧ Out σ σ' 423 425 ∧ (∀ j i, i ≠ n → σ'.1 j i = σ.1 j i) ∧ LG (pv σ 6) (rw12 (σ.1 2)) (rw12 (σ.1 3)) (qv σ') n := fun s h01 hs => by
      refine ⟨_, rfl, ((su_out.mo (by omega) (by omega)).tr (su_out.mo (by omega) (by omega))).tr (su_out.mo (by omega) (by omega)), fun j i ne => ?_, ?_⟩
      · rw [su_at, if_neg (fun z => ne z.2), su_at, if_neg (fun z => ne z.2), su_at, if_neg (fun z => ne z.2)]
      · have e1 : qv (su (su (su σ 423 n s) 424 n a) 425 n (b + 1)) 1 n = s.toInt := by
          rw [qv_at (by decide) (by decide) hn, su_at, if_neg (by omega), su_at, if_neg (by omega), su_at, if_pos ⟨rfl, rfl⟩]
        have e2 : qv (su (su (su σ 423 n s) 424 n a) 425 n (b + 1)) 2 n = a.toInt := by
          rw [qv_at (by decide) (by decide) hn, su_at, if_neg (by omega), su_at, if_pos ⟨rfl, rfl⟩]
        have e3 : qv (su (su (su σ 423 n s) 424 n a) 425 n (b + 1)) 3 n = b.toInt + 1 := by
          rw [qv_at (by decide) (by decide) hn, su_at, if_pos ⟨rfl, rfl⟩, j_add (by rw [jz1]; omega) (by rw [jz1]; omega), jz1]
        unfold LG
        rw [e1, e2, e3, ha, hb]
        have s1 : s.toInt = 1 ↔ s = 1 := by rw [j_eq, jz1]
        refine ⟨?_, by rw [s1]; exact hs, fun _ => ⟨rfl, rfl⟩⟩
        rcases h01 with rfl | rfl
        · exact Or.inl rfl
        · exact Or.inr rfl
    show ∃ σ', fX2_measureGroup_8 422 1 (k + 1) σ (nI n) a b (nI 12) = some σ' ∧ _
    rw [fX2_measureGroup_8, if_pos (n_le 12 (m := 12) rfl (by decide))]
    by_cases y : a ≤ 0
    · rw [if_pos y, h90]
      rw [j_le, jz0, ha] at y
      exact res 0 (Or.inl rfl) ⟨fun z => absurd z (by decide), fun z => absurd (ap.mpr z) (by omega)⟩
    · rw [if_neg y, h90]
      rw [j_le, jz0, ha] at y
      exact res 1 (Or.inr rfl) ⟨fun _ => ap.mp (by omega), fun _ => rfl⟩
/-- a row holds a list -/
def rl (f : Nat → Int32) (l : List Nat) : Prop := ∀ k c, l[k]? = some c → f k = nI c
theorem rl_snoc {f g : Nat → Int32} {l : List Nat} {x : Nat} (h : rl f l) (hg : ∀ i, g i = if i = l.length then nI x else f i) : rl g (l ++ [x]) := fun k c hk => by
  rw [hg]
  by_cases q : k < l.length
  · rw [List.getElem?_append_left q] at hk
    rw [if_neg (by omega)]
    exact h k c hk
  · rw [List.getElem?_append_right (by omega)] at hk
    have : k - l.length = 0 := by
      refine Classical.byContradiction (fun z => ?_)
      rw [List.getElem?_eq_none (by simp; omega)] at hk
      cases hk
    rw [this] at hk
    have hk : some x = some c := hk
    rw [if_pos (by omega), Option.some.inj hk]
theorem take_snoc {l : List Nat} {k c : Nat} (h : l[k]? = some c) : l.take (k + 1) = l.take k ++ [c] := by
  rw [List.take_add_one, h]
  rfl
/-- the parts shown are listed -/
theorem s_listParts (t : Tree (pv σ 6) d wn X) {n : Nat} (hn : n < 23) (k : pv σ 6 8 n ≤ 1) : ∃ σ', fX2_listParts σ 422 6 (nI n) = some (nI (pls (pv σ 6) (qv σ) n).length, σ') ∧ Out σ σ' 431 431 ∧ rl (σ'.1 431) (pls (pv σ 6) (qv σ) n) := by
  have ei : (nI n).toInt = n := j_nI (by omega)
  have cc23 : v_cc (pv σ 6) n ≤ 23 := by
    unfold v_cc
    split
    · omega
    · exact cnt_le _ _
  unfold fX2_listParts
  rw [s_childCount, j_b, ei, ← j_nIo _ (by omega)]
  refine lp (F := fun m (s : Sg × Int32 × Int32) => fX2_listParts_12 422 6 m s.1 (nI n) (nI (v_cc (pv σ 6) n)) s.2.1 s.2.2) (Q := fun r => ∃ σ', r = some (nI (pls (pv σ 6) (qv σ) n).length, σ') ∧ Out σ σ' 431 431 ∧ rl (σ'.1 431) (pls (pv σ 6) (qv σ) n)) (fun i s => Out σ s.1 431 431 ∧ s.2.1 = nI (((kids (pv σ 6) n).take i).filter (fun c => decide (qv σ 1 c = 1))).length ∧ s.2.2 = nI i ∧ rl (s.1.1 431) (((kids (pv σ 6) n).take i).filter (fun c => decide (qv σ 1 c = 1)))) (v_cc (pv σ 6) n) ?_ ?_ (v_cc (pv σ 6) n) 0 FU (σ, 0, 0) (by omega) (by show _ < 6000; omega) ⟨Out.rf, rfl, rfl, fun k c h => by cases h⟩
  · rintro m i ⟨s, a, l⟩ hi ⟨ho, rfl, rfl, hr⟩
    simp only at ho hr
    obtain ⟨c, hc, e1, e2, e3, e4⟩ := t.kid hn k hi
    have ii : (nI i).toInt = i := j_nI (by omega)
    have vs : pv s 6 = pv σ 6 := pv_oc ho (by decide)
    have ts := take_snoc e4
    show ∃ s' : Sg × Int32 × Int32, _ ∧ fX2_listParts_12 422 6 (m + 1) s (nI n) (nI (v_cc (pv σ 6) n)) _ (nI i) = _
    have lt : (((kids (pv σ 6) n).take i).filter (fun c => decide (qv σ 1 c = 1))).length ≤ i := Nat.le_trans (List.length_filter_le _ _) (by rw [List.length_take]; omega)
    generalize hL : ((kids (pv σ 6) n).take i).filter (fun c => decide (qv σ 1 c = 1)) = L at *
    have hs : fX2_isShown s 422 (nI c) = some (decide (qv σ 1 c = 1)) := by
      unfold fX2_isShown
      rw [show (422 + 1 : Nat) = 423 from rfl, s_atn (by decide) hc, j_b, ho.2 423 (by omega)]
      have : qv σ 1 c = (σ.1 423 c).toInt := qv_at (by decide) (by decide) hc
      by_cases q : σ.1 423 c = 1
      · rw [if_pos q, decide_eq_true (by rw [this, q]; rfl)]
      · rw [if_neg q, decide_eq_false (fun z => q (j_eq.mpr (by rw [← this, z]; rfl)))]
    rw [fX2_listParts_12, if_neg (by rw [j_le, ii, j_nI (by omega)]; omega), s_childAt, j_b, vs, ei, ii, e1, ← j_nIo c (by omega), hs, j_b]
    by_cases q : qv σ 1 c = 1
    · rw [if_pos (decide_eq_true q), show (422 + 9 : Nat) = 431 from rfl, s_putn (by decide) (by omega), j_b, fX2_listParts_50, j_s, j_s]
      have ef : ((kids (pv σ 6) n).take (i + 1)).filter (fun c => decide (qv σ 1 c = 1)) = L ++ [c] := by
        rw [ts, List.filter_append, hL]
        congr 1
        simp [q]
      refine ⟨(_, nI (L.length + 1), nI (i + 1)), ⟨ho.tr su_out, ?_, rfl, ?_⟩, rfl⟩
      · rw [ef, List.length_append]
        rfl
      · rw [ef]
        refine rl_snoc hr (fun j => ?_)
        show (su s 431 L.length (nI c)).1 431 j = _
        rw [su_at]
        by_cases z : j = L.length
        · rw [if_pos ⟨rfl, z⟩, if_pos z]
        · rw [if_neg (fun y => z y.2), if_neg z]
    · rw [if_neg (by rw [decide_eq_false q]; decide), fX2_listParts_50, j_s]
      have ef : ((kids (pv σ 6) n).take (i + 1)).filter (fun c => decide (qv σ 1 c = 1)) = L := by
        rw [ts, List.filter_append, hL]
        simp [q]
      refine ⟨(s, nI L.length, nI (i + 1)), ⟨ho, ?_, rfl, ?_⟩, rfl⟩
      · rw [ef]
      · rw [ef]
        exact hr
  · rintro m ⟨s, a, l⟩ ⟨ho, rfl, rfl, hr⟩
    simp only at ho hr
    have ef : (kids (pv σ 6) n).take (v_cc (pv σ 6) n) = kids (pv σ 6) n := List.take_of_length_le (by rw [kids_len]; exact Nat.le_refl _)
    show ∃ σ', fX2_listParts_12 422 6 (m + 1) s (nI n) (nI (v_cc (pv σ 6) n)) _ (nI (v_cc (pv σ 6) n)) = _ ∧ _
    rw [fX2_listParts_12, if_pos (by rw [j_le]; exact Int.le_refl _), ef]
    rw [ef] at hr
    exact ⟨s, rfl, ho, hr⟩
/-- what a measure leaves alone -/
def Fm (σ σ' : Sg) (n : Nat) : Prop := σ'.2 = σ.2 ∧ (∀ j, (j < 423 ∨ (425 < j ∧ j ≠ 431)) → σ'.1 j = σ.1 j) ∧ ∀ j i, j ≠ 431 → i ≠ n → σ'.1 j i = σ.1 j i
theorem j_oa (x y : Int) : oI x + oI y = oI (x + y) := (Int32.ofInt_add x y).symm
theorem j_os (x y : Int) : oI x - oI y = oI (x - y) := (Int32.ofInt_sub x y).symm
theorem pls_kid (t : Tree (pv σ 6) d wn X) {n : Nat} (hn : n < 23) (k : pv σ 6 8 n ≤ 1) {c : Nat} (hc : c ∈ kids (pv σ 6) n) : c < 23 ∧ c ≠ n := by
  obtain ⟨a, b⟩ := (t.kids_mem hn k).mp hc
  have := (t.par a b).2.2.1
  exact ⟨a, fun z => by rw [z] at this; omega⟩
theorem s_ms125 {n A B len : Nat} (hn : n < 23) (hA : A = 424 ∧ B = 425 ∨ A = 425 ∧ B = 424) (x y : Int32) (s : Int32) : ∃ σ', fX2_measureSplit_125 422 6 σ (nI n) A B (nI len) x y (nI n) s = some σ' ∧ Fm σ σ' n ∧ σ'.1 431 = σ.1 431 ∧ σ'.1 423 n = s ∧ σ'.1 A n = (x + nI len) - 1 ∧ σ'.1 B n = y := by
  unfold fX2_measureSplit_125
  rw [show (422 + 1 : Nat) = 423 from rfl, s_putn (by decide) hn, j_b, s_putn (by decide) hn, j_b, s_putn (by decide) hn, j_b]
  refine ⟨_, rfl, ⟨rfl, fun j hj => ?_, fun j i hj hi => ?_⟩, ?_, ?_, ?_, ?_⟩
  · rw [su_ne (by omega), su_ne (by omega), su_ne (by omega)]
  · rw [su_at, if_neg (fun z => hi z.2), su_at, if_neg (fun z => hi z.2), su_at, if_neg (fun z => hi z.2)]
  · rw [su_ne (by omega), su_ne (by omega), su_ne (by omega)]
  · rw [su_at, if_neg (by omega), su_at, if_neg (by omega), su_at, if_pos ⟨rfl, rfl⟩]
  · rw [su_at, if_neg (by omega), su_at, if_pos ⟨rfl, rfl⟩]
  · rw [su_at, if_pos ⟨rfl, rfl⟩]
theorem s_ms58 {n A B : Nat} (hn : n < 23) (hA : A = 424 ∧ B = 425 ∨ A = 425 ∧ B = 424) {pl : List Nat} (hp : ∀ c ∈ pl, c < 23) (hl : pl.length ≤ 23) (hr : rl (σ.1 431) pl) : ∃ σ', fX2_measureSplit_58 422 6 FU σ (nI n) A B (nI pl.length) 0 0 0 = some σ' ∧ Fm σ σ' n ∧ σ'.1 431 = σ.1 431 ∧ σ'.1 423 n = (if pl.length = 0 then 0 else 1) ∧ σ'.1 A n = oI (Sm (fun c => (σ.1 A c).toInt) pl + pl.length - 1) ∧ (σ'.1 B n).toInt = lgx (fun c => (σ.1 B c).toInt) pl := by
  refine lp (F := fun m (s : Int32 × Int32 × Int32) => fX2_measureSplit_58 422 6 m σ (nI n) A B (nI pl.length) s.1 s.2.1 s.2.2) (Q := fun r => ∃ σ', r = some σ' ∧ Fm σ σ' n ∧ σ'.1 431 = σ.1 431 ∧ σ'.1 423 n = (if pl.length = 0 then 0 else 1) ∧ σ'.1 A n = oI (Sm (fun c => (σ.1 A c).toInt) pl + pl.length - 1) ∧ (σ'.1 B n).toInt = lgx (fun c => (σ.1 B c).toInt) pl) (fun i s => s.1 = oI (Sm (fun c => (σ.1 A c).toInt) (pl.take i)) ∧ s.2.1.toInt = lgx (fun c => (σ.1 B c).toInt) (pl.take i) ∧ s.2.2 = nI i) pl.length ?_ ?_ pl.length 0 FU (0, 0, 0) (by omega) (by show _ < 6000; omega) ⟨rfl, rfl, rfl⟩
  · rintro m i ⟨a, b, l⟩ hi ⟨rfl, hb, rfl⟩
    simp only at hb
    have gi := List.getElem?_eq_getElem hi
    generalize pl[i] = c at gi
    have hc : c < 23 := hp c (List.mem_iff_getElem?.mpr ⟨i, gi⟩)
    have e31 : σ.1 431 i = nI c := hr i c gi
    show ∃ s' : Int32 × Int32 × Int32, _ ∧ fX2_measureSplit_58 422 6 (m + 1) σ (nI n) A B (nI pl.length) _ b (nI i) = _
    rw [fX2_measureSplit_58, if_neg (by rw [j_le, j_nI (by omega), j_nI (by omega)]; omega), show (422 + 9 : Nat) = 431 from rfl, s_atn (by decide) (by omega), j_b, e31, s_atn (by decide) hc, j_b, j_nm, j_b, s_atn (by decide) hc, j_b, j_nm, j_s]
    refine ⟨(_, _, nI (i + 1)), ⟨?_, ?_, rfl⟩, rfl⟩
    · show oI _ + σ.1 A c = _
      rw [take_snoc gi, Sm_app, ← j_oIt (σ.1 A c), j_oa]
      refine congrArg oI ?_
      show _ = _ + ((σ.1 A c).toInt + 0)
      omega
    · rw [take_snoc gi, lgx_snoc, ← hb]
      show (if b < σ.1 B c then σ.1 B c else b).toInt = if b.toInt < (σ.1 B c).toInt then (σ.1 B c).toInt else b.toInt
      by_cases y : b < σ.1 B c
      · rw [if_pos y, if_pos (j_lt.mp y)]
      · rw [if_neg y, if_neg (fun x => y (j_lt.mpr x))]
  · rintro m ⟨a, b, l⟩ ⟨rfl, hb, rfl⟩
    simp only at hb
    rw [List.take_length] at hb
    show ∃ σ', fX2_measureSplit_58 422 6 (m + 1) σ (nI n) A B (nI pl.length) _ b (nI pl.length) = some σ' ∧ _
    rw [fX2_measureSplit_58, if_pos (by rw [j_le]; exact Int.le_refl _), List.take_length]
    have ex : ∀ s : Int32, s = (if pl.length = 0 then 0 else 1) → ∃ σ', fX2_measureSplit_125 422 6 σ (nI n) A B (nI pl.length) (oI (Sm (fun c => (σ.1 A c).toInt) pl)) b (nI n) s = some σ' ∧ Fm σ σ' n ∧ σ'.1 431 = σ.1 431 ∧ σ'.1 423 n = (if pl.length = 0 then 0 else 1) ∧ σ'.1 A n = oI (Sm (fun c => (σ.1 A c).toInt) pl + pl.length - 1) ∧ (σ'.1 B n).toInt = lgx (fun c => (σ.1 B c).toInt) pl := fun s hs => by
      obtain ⟨σ', e, f, g, h1, h2, h3⟩ := s_ms125 (σ := σ) (len := pl.length) hn hA (oI (Sm (fun c => (σ.1 A c).toInt) pl)) b s
      refine ⟨σ', e, f, g, by rw [h1, hs], ?_, by rw [h3, hb]⟩
      rw [h2, j_nIo _ (by omega), j_oa, show (1 : Int32) = oI 1 from rfl, j_os]
    by_cases z : pl.length = 0
    · rw [if_pos (by rw [z]; decide)]
      exact ex 0 (by rw [if_pos z])
    · rw [if_neg (by rw [j_le, jz0, j_nI (by omega)]; omega)]
      exact ex 1 (by rw [if_neg z])
theorem fm_qv {σ σ' : Sg} {n : Nat} (h : Fm σ σ' n) {j i : Nat} (hj : j ≤ 7) (hi : i ≠ n) : qv σ' j i = qv σ j i := qv_eq (h.2.2 _ _ (by omega) hi)
theorem fm_pv {σ σ' : Sg} {n : Nat} (h : Fm σ σ' n) : pv σ' 6 = pv σ 6 := pv_cg (fun j hj => h.2.1 _ (by omega))
/-- a split's measure -/
theorem s_measureSplit (t : Tree (pv σ 6) d wn X) {n : Nat} (hn : n < 23) (k : pv σ 6 8 n ≤ 1) : ∃ σ', fX2_measureSplit σ 422 6 (nI n) = some σ' ∧ Fm σ σ' n ∧ LT (pv σ 6) (qv σ') n := by
  have en : (nI n).toInt = n := j_nI (by omega)
  have gk : ga (pv σ 6 8) 23 (nI n).toInt = pv σ 6 8 n := by rw [en]; exact ga_in hn
  obtain ⟨σ1, a1, o1, r1⟩ := s_listParts t hn k
  have len := t.pls_len (P := qv σ) hn k
  have mem : ∀ c ∈ pls (pv σ 6) (qv σ) n, c < 23 ∧ c ≠ n := fun c hc => pls_kid t hn k (List.mem_filter.mp hc).1
  obtain ⟨d1, d2⟩ := t.drs hn k
  -- both directions
  have go : ∀ A B, (A = 424 ∧ B = 425 ∨ A = 425 ∧ B = 424) → A = 422 + (2 + dr (pv σ 6) n) → B = 422 + (3 - dr (pv σ 6) n) → ∃ σ', fX2_measureSplit_39 422 6 σ (nI n) A B = some σ' ∧ Fm σ σ' n ∧ LT (pv σ 6) (qv σ') n := fun A B hA eA eB => by
    unfold fX2_measureSplit_39
    rw [a1, j_b]
    obtain ⟨σ2, a2, f2, -, v1, v2, v3⟩ := s_ms58 (σ := σ1) hn hA (fun c hc => (mem c hc).1) len r1
    have f : Fm σ σ2 n := ⟨f2.1.trans o1.1, fun j hj => (f2.2.1 j hj).trans (o1.2 j (by omega)), fun j i hj hi => (f2.2.2 j i hj hi).trans (by rw [o1.2 j (by omega)])⟩
    refine ⟨σ2, a2, f, ?_⟩
    have ep : pls (pv σ 6) (qv σ2) n = pls (pv σ 6) (qv σ) n := pls_cg (fun c hc => fm_qv f (by decide) (pls_kid t hn k hc).2)
    have q1 : qv σ2 1 n = if (pls (pv σ 6) (qv σ) n).length = 0 then 0 else 1 := by
      rw [qv_at (by decide) (by decide) hn, show (422 + 1 : Nat) = 423 from rfl, v1]
      split <;> rfl
    have rA : ∀ c ∈ pls (pv σ 6) (qv σ) n, (σ1.1 A c).toInt = qv σ2 (2 + dr (pv σ 6) n) c := fun c hc => by
      rw [fm_qv f (by omega) (mem c hc).2, qv_at (by omega) (by omega) (mem c hc).1, ← eA, o1.2 A (by omega)]
    have rB : ∀ c ∈ pls (pv σ 6) (qv σ) n, (σ1.1 B c).toInt = qv σ2 (3 - dr (pv σ 6) n) c := fun c hc => by
      rw [fm_qv f (by omega) (mem c hc).2, qv_at (by omega) (by omega) (mem c hc).1, ← eB, o1.2 B (by omega)]
    refine ⟨by rw [q1]; split <;> omega, ?_, fun _ => ⟨?_, ?_⟩⟩
    · rw [q1]
      constructor
      · intro z
        have l1 : (pls (pv σ 6) (qv σ) n).length ≠ 0 := fun y => by rw [if_pos y] at z; omega
        obtain ⟨c, hc⟩ := List.exists_mem_of_length_pos (Nat.pos_of_ne_zero l1)
        have hc2 := hc
        rw [← ep] at hc2
        obtain ⟨y1, y2, y3⟩ := (t.pls_mem hn k).mp hc2
        exact ⟨c, y1, y2, y3⟩
      · rintro ⟨c, hc, e, z⟩
        have : c ∈ pls (pv σ 6) (qv σ) n := by
          rw [← ep]
          exact (t.pls_mem hn k).mpr ⟨hc, e, z⟩
        have := List.length_pos_of_mem this
        rw [if_neg (by omega)]
    · rw [ep, qv_at (by omega) (by omega) hn, ← eA, v2]
      rw [Sm_congr rA]
    · rw [ep, qv_at (by omega) (by omega) hn, ← eB, v3]
      exact lgx_cg rB
  unfold fX2_measureSplit
  rw [s_kindOf, j_b, gk]
  have t8 := t_ga (σ := σ) (b := 6) (j := 8) (n := 23) (p := (n : Int))
  rw [ga_in hn] at t8
  have z : dr (pv σ 6) n = 0 ∨ dr (pv σ 6) n = 1 := by omega
  rcases z with z | z
  · have e0 : oI (pv σ 6 8 n) = 0 := j_eq.mpr (by rw [t8, jz0]; omega)
    rw [if_pos e0]
    unfold fX2_measureSplit_19
    rw [s_kindOf, j_b, gk, if_pos e0]
    exact go 424 425 (Or.inl ⟨rfl, rfl⟩) (by rw [z]) (by rw [z])
  · have e0 : ¬ oI (pv σ 6 8 n) = 0 := fun y => by rw [j_eq, t8, jz0] at y; omega
    rw [if_neg e0]
    unfold fX2_measureSplit_19
    rw [s_kindOf, j_b, gk, if_neg e0]
    exact go 425 424 (Or.inr ⟨rfl, rfl⟩) (by rw [z]) (by rw [z])
end QV

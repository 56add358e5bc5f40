/-! THE RELATION: dividers in the reference -/
section RAI
variable {σ : Sg} {V : VW} {d : Nat → Nat} {wn : Nat → Int} {X Y : Nat → Bool}
theorem v_ca_out {V : VW} {d : Nat → Nat} {wn : Nat → Int} {X : Nat → Bool} (t : Tree V d wn X) {s : Nat} (hs : s < 23) (ks : V 8 s ≤ 1) {x : Int} (hx : ¬ (0 ≤ x ∧ x < v_cc V s)) : v_ca V s x = -1 := by
  unfold v_ca
  rw [if_neg (by omega)]
  refine fnd_no (fun i hi => ?_)
  by_cases e : V 9 i = s
  · have m := (t.sp hs ks).1.1 i hi (by simp [e])
    have : v_cc V s = cnt (fun n => decide (V 9 n = (s : Int))) 23 := by
      unfold v_cc
      rw [if_neg (by omega)]
    rw [decide_eq_false (show ¬ V 10 i = x by omega), Bool.and_false]
  · rw [decide_eq_false e, Bool.false_and]
theorem side_c {side : Int32} (hs : side = 0 ∨ side = 1 ∨ side = 2 ∨ side = 3) : ((side - side / 2 * 2) = 0 ∧ nbE side.toInt = -1) ∨ (¬ (side - side / 2 * 2) = 0 ∧ nbE side.toInt = 1) := by
  rcases hs with rfl | rfl | rfl | rfl
  · exact Or.inl ⟨by decide, rfl⟩
  · exact Or.inr ⟨by decide, rfl⟩
  · exact Or.inl ⟨by decide, rfl⟩
  · exact Or.inr ⟨by decide, rfl⟩
/-- the nodes on the two sides of the divider -/
def ahN (V P : VW) (m : Nat) (side : Int) : Int := if nbE side = -1 then snb V P m side else m
def beN (V P : VW) (m : Nat) (side : Int) : Int := if nbE side = -1 then m else snb V P m side
theorem m_hd44 (h : VM (mv (σ.1 463)) V X) (t : Tree V d wn Y) {n s : Nat} (hn : n < 23) (e9 : V 9 n = s) (hs : s < 23) (ks : V 8 s ≤ 1) {side l5 : Int32} (hsd : side = 0 ∨ side = 1 ∨ side = 2 ∨ side = 3) (e5 : l5.toInt = nbE side.toInt) (b01 : ∀ i, i < 23 → V 9 i = s → mq σ 1 i = 0 ∨ mq σ 1 i = 1) {l6 : Int32} (e6 : l6.toInt = V 10 n + nbE side.toInt) (K : Sg → Int32 → Int32 → Option (Bool × Sg)) : fX9_hasDivider_44 462 K FU σ side (oI (n : Int)) (oI (s : Int)) l5 l6 = if snb V (mq σ) n side.toInt = -1 then K σ side (oI (s : Int)) else some (true, su (su σ 462 13 (oI (ahN V (mq σ) n side.toInt))) 462 14 (oI (beN V (mq σ) n side.toInt))) := by
  have ts : (oI (s : Int)).toInt = s := j_oI (by omega) (by omega)
  have tcc : v_cc V s = cnt (fun n => decide (V 9 n = (s : Int))) 23 := by
    unfold v_cc
    rw [if_neg (by omega)]
  have cc23 := v_cc_rg V s
  have p10 := (t.sp hs ks).1.1 n hn (by simp [e9])
  have r6 : fX9_childMany σ 462 (oI (s : Int)) = some (nI (v_cc V s)) := by
    have := m_many h t hs
    rw [j_nIo s (by omega)] at this
    exact this
  have way : fX9_its σ 462 (oI (s : Int)) 2 = some (oI (V 8 s)) := by
    rw [m_i2 ts (by omega), (h.k1 hs ks).2]
  have kr := t.ki hs
  have t8 : (oI (V 8 s)).toInt = V 8 s := j_oI (by omega) (by omega)
  have sd := (sd4 hsd).1
  have one : nbE side.toInt = -1 ∨ nbE side.toInt = 1 := nbE_c _
  by_cases w : V 8 s = v_dir side.toInt
  · have weq : oI (V 8 s) = side / 2 := j_eq.mpr (by rw [t8, sd, w])
    have u : snb V (mq σ) n side.toInt = if nbj V (mq σ) n side.toInt = -1 then -1 else v_ca V s (V 10 n + nbj V (mq σ) n side.toInt * nbE side.toInt) := by
      unfold snb
      rw [if_neg (by omega), e9, ga_in hs, if_pos w]
    -- behind the last child nothing is shown
    have outj : ∀ j : Nat, ¬ (0 ≤ V 10 n + j * nbE side.toInt ∧ V 10 n + j * nbE side.toInt < v_cc V s) → nbB V (mq σ) n side.toInt j = false := fun j hj => by
      unfold nbB
      rw [e9, v_ca_out t hs ks hj, ga_m1 (f := mq σ 1), decide_eq_false (show ¬ (-1 : Int) = 1 by omega), Bool.and_false]
    have over : ∀ i : Nat, (∀ j, j ≤ i → nbB V (mq σ) n side.toInt j = false) → ¬ (0 ≤ V 10 n + ((i + 1 : Nat) : Int) * nbE side.toInt ∧ V 10 n + ((i + 1 : Nat) : Int) * nbE side.toInt < v_cc V s) → nbj V (mq σ) n side.toInt = -1 := fun i hl ho => fnd_no (fun j _ => by
      by_cases z : j ≤ i
      · exact hl j z
      · refine outj j (fun y => ho ?_)
        rcases one with v | v
        · rw [v] at y ⊢
          omega
        · rw [v] at y ⊢
          omega)
    refine lpx (F := fun f (x : Int32) => fX9_hasDivider_44 462 K f σ side (oI (n : Int)) (oI (s : Int)) l5 x) (Q := fun o => o = if snb V (mq σ) n side.toInt = -1 then K σ side (oI (s : Int)) else some (true, su (su σ 462 13 (oI (ahN V (mq σ) n side.toInt))) 462 14 (oI (beN V (mq σ) n side.toInt)))) (fun i x => x.toInt = V 10 n + ((i + 1 : Nat) : Int) * nbE side.toInt ∧ ∀ j, j ≤ i → nbB V (mq σ) n side.toInt j = false) 22 ?_ ?_ 22 0 FU l6 rfl (by decide) ⟨by rw [e6]; show _ = _ + (1 : Int) * _; omega, fun j hj => by
      rw [show j = 0 by omega]
      rfl⟩
    · rintro f i l hi ⟨el, hl⟩
      by_cases lo : V 10 n + ((i + 1 : Nat) : Int) * nbE side.toInt < 0
      · left
        show fX9_hasDivider_44 462 K (f + 1) σ side (oI (n : Int)) (oI (s : Int)) l5 l = _
        have nj := over i hl (by omega)
        rw [fX9_hasDivider_44, way, j_b, if_pos weq, if_pos (by rw [j_lt, el, jz0]; exact lo), u, nj, if_pos rfl, if_pos rfl]
        rfl
      · by_cases hi2 : (v_cc V s : Int) ≤ V 10 n + ((i + 1 : Nat) : Int) * nbE side.toInt
        · left
          show fX9_hasDivider_44 462 K (f + 1) σ side (oI (n : Int)) (oI (s : Int)) l5 l = _
          have nj := over i hl (by omega)
          rw [fX9_hasDivider_44, way, j_b, if_pos weq, if_neg (fun y => lo (by rw [j_lt, el, jz0] at y; exact y)), r6, j_b, if_pos (by rw [j_le, j_nI (by omega), el]; exact hi2), u, nj, if_pos rfl, if_pos rfl]
          rfl
        · obtain ⟨q, hq⟩ : ∃ q : Nat, V 10 n + ((i + 1 : Nat) : Int) * nbE side.toInt = q := ⟨(V 10 n + ((i + 1 : Nat) : Int) * nbE side.toInt).toNat, by omega⟩
          obtain ⟨c, hc, ec, e9c, e10c, -⟩ := t.kid hs ks (show q < v_cc V s by omega)
          have chd : fX9_child σ 462 (oI (s : Int)) l = some (nI c) := by
            rw [m_child, ts, el, hq, h.ca t (by omega), ec, j_nIo c (by omega)]
          have bj : nbB V (mq σ) n side.toInt (i + 1) = decide (mq σ 1 c = 1) := by
            unfold nbB
            rw [e9, hq, ec, ga_in hc, decide_eq_true (show 1 ≤ i + 1 by omega), Bool.true_and]
          have q01 := b01 c hc e9c
          have ecl : (nI c).toNatClampNeg = c := j_cl _ (by omega)
          have s5 : σ.1 (462 + 5) (nI c).toNatClampNeg = 0 ↔ ¬ mq σ 1 c = 1 := by
            rw [ecl, mq1 (by omega)] at *
            show σ.1 467 c = 0 ↔ _
            rw [j_eq, jz0]
            omega
          by_cases y : mq σ 1 c = 1
          · left
            show fX9_hasDivider_44 462 K (f + 1) σ side (oI (n : Int)) (oI (s : Int)) l5 l = _
            have nj : nbj V (mq σ) n side.toInt = ((i + 1 : Nat) : Int) := fnd_at (by omega) (by rw [bj]; exact decide_eq_true y) (fun k hk => hl k (by omega))
            have us : snb V (mq σ) n side.toInt = c := by rw [u, nj, if_neg (by omega), hq, ec]
            have ecI : nI c = oI (c : Int) := j_nIo c (by omega)
            rw [fX9_hasDivider_44, way, j_b, if_pos weq, if_neg (fun y => lo (by rw [j_lt, el, jz0] at y; exact y)), r6, j_b, if_neg (fun y => hi2 (by rw [j_le, j_nI (by omega), el] at y; exact y)), chd, j_b, if_pos (j_ckn (by omega) (by decide)), if_neg (fun z => (s5.mp z) y), us, if_neg (show ¬ (c : Int) = -1 by omega)]
            unfold ahN beN fX9_hasDivider_105 fX9_hasDivider_120
            rw [us]
            rcases one with v | v
            · have c1 : l5 ≤ 0 := by rw [j_le, e5, jz0]; omega
              rw [if_pos c1, j_nm, if_pos c1, j_nm, v, if_pos rfl, if_pos rfl, ecI]
            · have c1 : ¬ l5 ≤ 0 := by rw [j_le, e5, jz0]; omega
              rw [if_neg c1, j_nm, if_neg c1, j_nm, v, if_neg (by decide), if_neg (by decide), ecI]
          · right
            have add : (l + l5).toInt = V 10 n + ((i + 1 + 1 : Nat) : Int) * nbE side.toInt := by
              rw [j_add (by rw [el, e5, hq]; omega) (by rw [el, e5, hq]; omega), el, e5]
              rcases one with v | v <;> rw [v] <;> omega
            refine ⟨l + l5, ⟨add, fun j hj => ?_⟩, ?_⟩
            · by_cases z : j = i + 1
              · rw [z, bj]
                exact decide_eq_false y
              · exact hl j (by omega)
            · show fX9_hasDivider_44 462 K (f + 1) σ side (oI (n : Int)) (oI (s : Int)) l5 l = fX9_hasDivider_44 462 K f σ side (oI (n : Int)) (oI (s : Int)) l5 (l + l5)
              rw [fX9_hasDivider_44, way, j_b, if_pos weq, if_neg (fun y => lo (by rw [j_lt, el, jz0] at y; exact y)), r6, j_b, if_neg (fun y => hi2 (by rw [j_le, j_nI (by omega), el] at y; exact y)), chd, j_b, if_pos (j_ckn (by omega) (by decide)), if_pos (s5.mpr y), j_nm]
    · rintro f l ⟨el, hl⟩
      show fX9_hasDivider_44 462 K (f + 1) σ side (oI (n : Int)) (oI (s : Int)) l5 l = _
      have outr : ¬ (0 ≤ V 10 n + ((22 + 1 : Nat) : Int) * nbE side.toInt ∧ V 10 n + ((22 + 1 : Nat) : Int) * nbE side.toInt < v_cc V s) := by
        rcases one with v | v <;> rw [v] <;> omega
      have nj := over 22 hl outr
      rw [fX9_hasDivider_44, way, j_b, if_pos weq, u, nj, if_pos rfl, if_pos rfl]
      by_cases lo : l < 0
      · rw [if_pos lo]
        rfl
      · rw [if_neg lo, r6, j_b, if_pos (by rw [j_le, j_nI (by omega), el]; rw [j_lt, el, jz0] at lo; omega)]
        rfl
  · have u : snb V (mq σ) n side.toInt = -1 := by
      unfold snb
      rw [if_neg (by omega), e9, ga_in hs, if_neg w]
    rw [show FU = 5999 + 1 from rfl, fX9_hasDivider_44, way, j_b, if_neg (fun y => w (by rw [j_eq, t8, sd] at y; exact y)), u, if_pos rfl]
    rfl
theorem m_hd2 (h : VM (mv (σ.1 463)) V X) (t : Tree V d wn Y) {side : Int32} (hsd : side = 0 ∨ side = 1 ∨ side = 2 ∨ side = 3) (b01 : ∀ i, i < 23 → V 8 i ≠ 3 → mq σ 1 i = 0 ∨ mq σ 1 i = 1) : ∀ (k n fuel : Nat), n < 23 → V 8 n ≠ 3 → dq V n < k → k < fuel → fX9_hasDivider_2 462 fuel σ side (oI (n : Int)) = if nad V (mq σ) side.toInt k n = -1 then some (false, σ) else some (true, su (su σ 462 13 (oI (ahN V (mq σ) (nad V (mq σ) side.toInt k n).toNat side.toInt))) 462 14 (oI (beN V (mq σ) (nad V (mq σ) side.toInt k n).toNat side.toInt))) := by
  intro k
  induction k with
  | zero => exact fun n fuel _ _ hd => absurd hd (by omega)
  | succ k ih =>
    intro n fuel hn hu hd hf
    match fuel with
    | f + 1 =>
      have tn : (oI (n : Int)).toInt = n := j_oI (by omega) (by omega)
      have e1 := h.pa hn hu
      have r9 : -2147483648 ≤ V 9 n ∧ V 9 n < 2147483648 := by rw [← e1]; exact mv_rg _ _ _
      have y9 := oi_m1 r9.1 r9.2
      have u : nad V (mq σ) side.toInt (k + 1) n = if snb V (mq σ) n side.toInt = -1 then nad V (mq σ) side.toInt k (ga (V 9) 23 n) else n := by
        show (if (n : Int) = -1 then -1 else if snb V (mq σ) (n : Int).toNat side.toInt = -1 then _ else (n : Int)) = _
        rw [if_neg (by omega), Int.toNat_natCast]
      rw [fX9_hasDivider_2, m_i1 tn (by omega), j_b, e1, u]
      by_cases z : V 9 n = -1
      · have : snb V (mq σ) n side.toInt = -1 := by
          unfold snb
          rw [if_pos z]
        rw [if_pos (y9.mpr z), this, if_pos rfl, ga_in hn, z, nad_m1, if_pos rfl]
      · obtain ⟨s, hs, es, ks, -, -⟩ := t.pa hn z
        have us : V 8 s ≠ 3 := by omega
        have ds := t.dqc hn es
        have e4 := h.pl hn z
        have p10 := (t.sp hs ks).1.1 n hn (by simp [es])
        have c23 := cnt_le (fun n => decide (V 9 n = s)) 23
        have t10 : (oI (V 10 n)).toInt = V 10 n := j_oI (by omega) (by omega)
        rw [if_neg (fun y => z (y9.mp y)), j_b, es]
        have key : ∀ l5 : Int32, l5.toInt = nbE side.toInt → fX9_hasDivider_31 462 (fX9_hasDivider_2 462 f) σ side (oI (n : Int)) (oI (s : Int)) l5 = if (if snb V (mq σ) n side.toInt = -1 then nad V (mq σ) side.toInt k (ga (V 9) 23 n) else n) = -1 then some (false, σ) else some (true, su (su σ 462 13 (oI (ahN V (mq σ) (if snb V (mq σ) n side.toInt = -1 then nad V (mq σ) side.toInt k (ga (V 9) 23 n) else n).toNat side.toInt))) 462 14 (oI (beN V (mq σ) (if snb V (mq σ) n side.toInt = -1 then nad V (mq σ) side.toInt k (ga (V 9) 23 n) else n).toNat side.toInt))) := fun l5 e5 => by
          unfold fX9_hasDivider_31
          have l6 : (oI (V 10 n) + l5).toInt = V 10 n + nbE side.toInt := by
            rcases nbE_c side.toInt with v | v
            · rw [j_add (by rw [t10, e5, v]; omega) (by rw [t10, e5, v]; omega), t10, e5]
            · rw [j_add (by rw [t10, e5, v]; omega) (by rw [t10, e5, v]; omega), t10, e5]
          rw [m_i4 tn (by omega), j_b, e4, j_nm, m_hd44 h t hn es hs ks hsd e5 (fun i hi e => b01 i hi (t.us hi (by omega))) l6]
          by_cases w : snb V (mq σ) n side.toInt = -1
          · rw [if_pos w, if_pos w, ga_in hn, es]
            exact ih s f hs us (by omega) (by omega)
          · rw [if_neg w, if_neg w, if_neg (by omega), Int.toNat_natCast]
        rcases side_c hsd with ⟨a, b⟩ | ⟨a, b⟩
        · rw [if_pos a]
          exact key (-1) (by rw [b]; rfl)
        · rw [if_neg a]
          exact key 1 (by rw [b]; rfl)
/-- both find the same divider -/
theorem snb_cg {V P Q : VW} {d : Nat → Nat} {wn : Nat → Int} {X : Nat → Bool} (t : Tree V d wn X) (h : ∀ i, i < 23 → V 8 i ≠ 3 → P 1 i = Q 1 i) (n : Nat) (side : Int) (hn : n < 23) : snb V P n side = snb V Q n side := by
  by_cases z : V 9 n = -1
  · unfold snb
    rw [if_pos z, if_pos z]
  · have e : nbB V P n side = nbB V Q n side := by
      funext j
      unfold nbB
      congr 2
      have rg := v_ca_rg V (V 9 n) (V 10 n + j * nbE side)
      by_cases y : v_ca V (V 9 n) (V 10 n + j * nbE side) = -1
      · rw [y, ga_m1 (f := P 1), ga_m1 (f := Q 1)]
      · obtain ⟨q, hq⟩ : ∃ q : Nat, v_ca V (V 9 n) (V 10 n + j * nbE side) = q := ⟨(v_ca V (V 9 n) (V 10 n + j * nbE side)).toNat, by omega⟩
        rw [hq, ga_in (by omega), ga_in (by omega)]
        unfold v_ca at hq
        rw [if_neg z] at hq
        rcases fnd_spec (fun n1 => decide (V 9 n1 = V 9 n) && decide (V 10 n1 = V 10 n + j * nbE side)) 23 with ⟨a, -⟩ | ⟨i, hi, a, b, -⟩
        · omega
        · have : i = q := by omega
          subst this
          simp only [Bool.and_eq_true, decide_eq_true_eq] at b
          rw [h i hi (t.us hi (by rw [b.1]; exact z))]
    unfold snb nbj
    rw [e]
theorem nad_cg {V P Q : VW} {d : Nat → Nat} {wn : Nat → Int} {X : Nat → Bool} (t : Tree V d wn X) (h : ∀ i, i < 23 → V 8 i ≠ 3 → P 1 i = Q 1 i) (side : Int) : ∀ (k n : Nat), n < 23 → nad V P side k n = nad V Q side k n := by
  intro k
  induction k with
  | zero => exact fun n _ => rfl
  | succ k ih =>
    intro n hn
    show (if (n : Int) = -1 then -1 else if snb V P (n : Int).toNat side = -1 then nad V P side k (ga (V 9) 23 n) else (n : Int)) = (if (n : Int) = -1 then -1 else if snb V Q (n : Int).toNat side = -1 then nad V Q side k (ga (V 9) 23 n) else (n : Int))
    rw [Int.toNat_natCast, snb_cg t h n side hn, ga_in hn]
    by_cases z : V 9 n = -1
    · rw [z, nad_m1, nad_m1]
    · obtain ⟨s, hs, es, -⟩ := t.pa hn z
      rw [es, ih s hs]
end RAI

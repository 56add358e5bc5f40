/-! THE RELATION: drag, the reference's weights -/
section RAL
variable {V : VW} {d : Nat → Nat} {wn : Nat → Int} {X Y : Nat → Bool}
/-- row 3 alone has changed -/
def W3 (U U' : VW) (D : Nat → Bool) (g : Nat → Int) : Prop := (∀ j, j ≠ 3 → U' j = U j) ∧ ∀ n, n < 23 → U' 3 n = if D n = true then g n else U 3 n
theorem W3.ch {U U' : VW} {D : Nat → Bool} {g : Nat → Int} (w : W3 U U' D g) (h : VM U V X) (t : Tree V d wn Y) {s i : Nat} (hi : i < 24) : (decide (U' 0 i ≠ 0) && decide (U' 1 i = s)) = (decide (i < 23) && decide (V 9 i = s)) := by
  rw [w.1 0 (by omega), w.1 1 (by omega)]
  by_cases z : i < 23
  · rw [h.ch t z (show (s : Int) ≠ -1 by omega), decide_eq_true z, Bool.true_and]
  · have : i = 23 := by omega
    rw [this, h.l]
    rfl
theorem W3.up {σ σ' : Sg} {U : VW} {D D' : Nat → Bool} {g : Nat → Int} {c : Nat} (w : W3 U (mv (σ.1 463)) D g) (u : mv (σ'.1 463) = mu (mv (σ.1 463)) 3 c (g c)) (hD : ∀ n, n < 23 → D' n = (D n || decide (n = c))) : W3 U (mv (σ'.1 463)) D' g := by
  refine ⟨fun j hj => by rw [u, mu_ne hj]; exact w.1 j hj, fun n hn => ?_⟩
  rw [u, mu_at, hD n hn]
  by_cases z : n = c
  · rw [if_pos z, decide_eq_true z, Bool.or_true, if_pos rfl, z]
  · rw [if_neg z, decide_eq_false z, Bool.or_false]
    exact w.2 n hn
theorem W3.cg {U U' : VW} {D D' : Nat → Bool} {g : Nat → Int} (w : W3 U U' D g) (hD : ∀ n, n < 23 → D' n = D n) : W3 U U' D' g :=
  ⟨w.1, fun n hn => by rw [hD n hn]; exact w.2 n hn⟩
def E1 (V P : VW) (s i n : Nat) : Bool := decide (n < i) && cs V P s n
def E2 (V P : VW) (s i n : Nat) : Bool := decide (V 9 n = s) && (decide (P 1 n = 1) || decide (n < i))
theorem m_we105 {σ : Sg} {U P : VW} (h : VM U V X) (t : Tree V d wn Y) {s : Nat} (hs : s < 23) {G : Nat → Int} {T B : Int} {l3 l5 : Int64} (e3 : l3.toInt = B) (e5 : l5.toInt = T) (hB : 1 ≤ B ∧ B ≤ 23000000) (hT : 0 ≤ T ∧ T ≤ 1840000) (hG : ∀ c, c < 23 → V 9 c = s → ¬ P 1 c = 1 → G c = wcl V T B c) (hp : ∀ c, c < 23 → V 9 c = s → (σ.1 467 c = 0 ↔ ¬ P 1 c = 1)) (w : W3 U (mv (σ.1 463)) (E2 V P s 0) G) : ∃ σ', fX9_weighs_105 462 FU σ (oI (s : Int)) l3 l5 0 = some σ' ∧ Out σ σ' 463 463 ∧ W3 U (mv (σ'.1 463)) (fun n => decide (V 9 n = s)) G := by
  have ts : (oI (s : Int)).toInt = s := j_oI (by omega) (by omega)
  have n3 : ¬ l3 = 0 := by rw [k_eq, e3, kz0]; omega
  refine lp (F := fun f (x : Sg × Int32) => fX9_weighs_105 462 f x.1 (oI (s : Int)) l3 l5 x.2) (Q := fun o => ∃ σ', o = some σ' ∧ Out σ σ' 463 463 ∧ W3 U (mv (σ'.1 463)) (fun n => decide (V 9 n = s)) G) (fun i x => x.2 = nI i ∧ Out σ x.1 463 463 ∧ W3 U (mv (x.1.1 463)) (E2 V P s i) G) 24 ?_ ?_ 24 0 FU (σ, 0) rfl (by decide) ⟨rfl, Out.rf, w⟩
  · rintro f i ⟨x, y⟩ hi ⟨rfl, hO, hW⟩
    simp only at hO hW
    have ti : (nI i).toInt = i := j_nI (by omega)
    have nle : ¬ (24 : Int32) ≤ nI i := n_ge 24 (m := 24) rfl hi (by decide)
    have cki : ck (nI i) 24 := j_ckn hi (by decide)
    have ecl : (nI i).toNatClampNeg = i := j_cl _ (by omega)
    have skip : (∀ n, n < 23 → E2 V P s (i + 1) n = E2 V P s i n) → ∃ x' : Sg × Int32, (x'.2 = nI (i + 1) ∧ Out σ x'.1 463 463 ∧ W3 U (mv (x'.1.1 463)) (E2 V P s (i + 1)) G) ∧ fX9_weighs_182 462 (fX9_weighs_105 462 f) x (oI (s : Int)) l3 l5 (nI i) = fX9_weighs_105 462 f x'.1 (oI (s : Int)) l3 l5 x'.2 := fun e => by
      unfold fX9_weighs_182
      rw [j_s]
      exact ⟨(x, nI (i + 1)), ⟨rfl, hO, hW.cg e⟩, rfl⟩
    show ∃ x' : Sg × Int32, _ ∧ fX9_weighs_105 462 (f + 1) x (oI (s : Int)) l3 l5 (nI i) = _
    rw [fX9_weighs_105, if_neg nle, m_isChild ti hi, j_b, ts, hW.ch h t hi]
    by_cases z : i < 23 ∧ V 9 i = s
    · obtain ⟨i23, e9⟩ := z
      rw [decide_eq_true i23, decide_eq_true e9, if_pos (by rfl), if_pos cki]
      have s5 : x.1 (462 + 5) (nI i).toNatClampNeg = 0 ↔ ¬ P 1 i = 1 := by
        rw [ecl]
        show x.1 467 i = 0 ↔ _
        rw [hO.2 467 (by omega)]
        exact hp i i23 e9
      by_cases y : P 1 i = 1
      · rw [if_neg (fun v => (s5.mp v) y)]
        refine skip (fun n hn => ?_)
        unfold E2
        by_cases v : n = i
        · rw [v, decide_eq_true y, Bool.true_or, Bool.true_or]
        · have : decide (n < i + 1) = decide (n < i) := by
            by_cases u : n < i
            · rw [decide_eq_true u, decide_eq_true (by omega)]
            · rw [decide_eq_false u, decide_eq_false (by omega)]
          rw [this]
      · have w1 := t.we i23 (show V 9 i ≠ -1 by omega)
        have Di : E2 V P s i i = false := by
          unfold E2
          rw [decide_eq_false y, decide_eq_false (show ¬ i < i by omega), Bool.or_false, Bool.and_false]
        have u3 : mv (x.1 463) 3 i = V 11 i := by
          rw [hW.2 i i23, Di, if_neg Bool.false_ne_true]
          exact h.we i23 (by omega)
        have t11 : (oI (mv (x.1 463) 3 i)).toInt64.toInt = V 11 i := by rw [k_64, t_mv, u3]
        have m0 : 0 ≤ V 11 i * T := Int.mul_nonneg (by omega) hT.1
        have m1 : V 11 i * T ≤ 1000000 * 1840000 := Int.mul_le_mul w1.2 hT.2 hT.1 (by omega)
        have vm : ((oI (mv (x.1 463) 3 i)).toInt64 * l5).toInt = V 11 i * T := by
          rw [k_mul (by rw [t11, e5]; omega) (by rw [t11, e5]; omega), t11, e5]
        have vd : (((oI (mv (x.1 463) 3 i)).toInt64 * l5) / l3).toInt = V 11 i * T / B := by
          rw [k_div (by rw [vm]; exact m0) (by rw [e3]; omega), vm, e3]
        have q0 : 0 ≤ V 11 i * T / B := Int.ediv_nonneg m0 (by omega)
        have qB : V 11 i * T / B ≤ 1000000 * 1840000 := Int.le_trans (Int.ediv_le_self _ m0) m1
        rw [if_pos (s5.mpr y), m_i3 ti hi, j_b, if_neg n3, j_nm]
        generalize ((oI (mv (x.1 463) 3 i)).toInt64 * l5) / l3 = v9 at vd
        have e6 : (1000000 : Int64).toInt = 1000000 := rfl
        have e1 : (1 : Int64).toInt = 1 := rfl
        have put : ∀ v : Int32, v.toInt = G i → ∃ x' : Sg × Int32, (x'.2 = nI (i + 1) ∧ Out σ x'.1 463 463 ∧ W3 U (mv (x'.1.1 463)) (E2 V P s (i + 1)) G) ∧ fX9_weighs_179 462 (fX9_weighs_105 462 f) x (oI (s : Int)) l3 l5 (nI i) (nI i) 3 v = fX9_weighs_105 462 f x'.1 (oI (s : Int)) l3 l5 x'.2 := fun v hv => by
          obtain ⟨x2, b2, w2, u2⟩ := m_l3 (σ := x) ti hi v
          unfold fX9_weighs_179 fX9_weighs_182
          rw [b2, j_b, j_s]
          refine ⟨(x2, nI (i + 1)), ⟨rfl, hO.tr w2, hW.up (c := i) (by rw [u2, hv]) (fun n hn => ?_)⟩, rfl⟩
          unfold E2
          by_cases v : n = i
          · rw [v, decide_eq_true e9, decide_eq_true (show i < i + 1 by omega), decide_eq_true rfl, Bool.or_true, Bool.or_true, Bool.true_and]
          · have : decide (n < i + 1) = decide (n < i) := by
              by_cases u : n < i
              · rw [decide_eq_true u, decide_eq_true (by omega)]
              · rw [decide_eq_false u, decide_eq_false (by omega)]
            rw [this, decide_eq_false v, Bool.or_false]
        have hg := hG i i23 e9 y
        unfold wcl at hg
        by_cases a : 1 ≤ V 11 i * T / B
        · rw [if_pos (show 0 ≤ (lg_cmp v9 (1 : Int64)) by rw [k_ge, vd, e1]; exact a)]
          rw [if_neg (show ¬ V 11 i * T / B < 1 by omega)] at hg
          by_cases b : V 11 i * T / B ≤ 1000000
          · rw [if_pos (show (lg_cmp v9 (1000000 : Int64)) ≤ 0 by rw [k_le, vd, e6]; exact b)]
            rw [if_neg (show ¬ 1000000 < V 11 i * T / B by omega)] at hg
            exact put _ (by rw [k_32 (by rw [vd]; omega) (by rw [vd]; omega), vd, hg])
          · rw [if_neg (show ¬ (lg_cmp v9 (1000000 : Int64)) ≤ 0 by rw [k_le, vd, e6]; exact b)]
            rw [if_pos (show 1000000 < V 11 i * T / B by omega)] at hg
            exact put _ (by rw [hg]; rfl)
        · rw [if_neg (show ¬ 0 ≤ (lg_cmp v9 (1 : Int64)) by rw [k_ge, vd, e1]; exact a)]
          rw [if_pos (show V 11 i * T / B < 1 by omega)] at hg
          exact put _ (by rw [hg]; rfl)
    · have c0 : ¬ (decide (i < 23) && decide (V 9 i = s)) = true := fun v => by
        simp only [Bool.and_eq_true, decide_eq_true_eq] at v
        exact z v
      rw [if_neg c0]
      refine skip (fun n hn => ?_)
      unfold E2
      by_cases v : n = i
      · have e9 : ¬ V 9 n = s := fun u => z ⟨by omega, by rw [← v]; exact u⟩
        rw [decide_eq_false e9, Bool.false_and, Bool.false_and]
      · have : decide (n < i + 1) = decide (n < i) := by
          by_cases u : n < i
          · rw [decide_eq_true u, decide_eq_true (by omega)]
          · rw [decide_eq_false u, decide_eq_false (by omega)]
        rw [this]
  · rintro f ⟨x, y⟩ ⟨rfl, hO, hW⟩
    simp only at hO hW
    show ∃ σ', fX9_weighs_105 462 (f + 1) x (oI (s : Int)) l3 l5 (nI 24) = _ ∧ _
    rw [fX9_weighs_105, if_pos (n_le 24 (m := 24) rfl (by decide))]
    refine ⟨x, rfl, hO, hW.cg (fun n hn => ?_)⟩
    unfold E2
    rw [decide_eq_true (show n < 24 by omega), Bool.or_true, Bool.and_true]
theorem m_weighs {σ : Sg} {P : VW} (h : VM (mv (σ.1 463)) V X) (t : Tree V d wn Y) {a b s D : Nat} (ha : a < 23) (e9a : V 9 a = s) (hs : s < 23) (ks : V 8 s ≤ 1) (hD : D ≤ 1) (pa : P 1 a = 1) {x : Int} (hx : -400 ≤ x ∧ x ≤ 400) (bn : ∀ n, n < 23 → V 9 n = s → P 1 n = 1 → 0 ≤ P (6 + D) n ∧ P (6 + D) n ≤ 400) (hp : ∀ c, c < 23 → V 9 c = s → (σ.1 467 c = 0 ↔ ¬ P 1 c = 1)) (hq : ∀ c, c < 23 → V 9 c = s → P 1 c = 1 → (σ.1 469 (4 * c + 2 + D)).toInt = P (6 + D) c + chg a b x c) : ∃ σ', fX9_weighs σ 462 (oI (s : Int)) (nI D) = some σ' ∧ Out σ σ' 463 463 ∧ W3 (mv (σ.1 463)) (mv (σ'.1 463)) (fun n => decide (V 9 n = s)) (wG V P D a b s x) := by
  have ts : (oI (s : Int)).toInt = s := j_oI (by omega) (by omega)
  have nd := t.pls_nd (P := P) hs ks
  have mem := fun c => t.pls_mem (P := P) hs ks (c := c)
  have memc : ∀ c, c ∈ pls V P s ↔ c < 23 ∧ cs V P s c = true := fun c => by
    rw [mem c]
    unfold cs
    simp only [Bool.and_eq_true, decide_eq_true_eq]
  have SmE : ∀ g : Nat → Int, sm (fun k => if cs V P s k then g k else 0) 23 = Sm g (pls V P s) := fun g => by
    rw [list_sm g (N := 23) nd (fun c hc => ((mem c).mp hc).1)]
    exact sm_congr (fun i hi => by
      by_cases y : cs V P s i = true
      · rw [if_pos y, if_pos ((memc i).mpr ⟨hi, y⟩)]
      · rw [if_neg y, if_neg (fun z => y ((memc i).mp z).2)])
  have csI : ∀ n, n < 23 → cs V P s n = true → V 9 n = s ∧ P 1 n = 1 := fun n hn z => by
    unfold cs at z
    simp only [Bool.and_eq_true, decide_eq_true_eq] at z
    exact z
  have bnd : ∀ (g : Nat → Int) (B : Int), 0 ≤ B → (∀ n, n < 23 → cs V P s n = true → 0 ≤ g n ∧ g n ≤ B) → ∀ i : Nat, i ≤ 23 → 0 ≤ sm (fun k => if cs V P s k then g k else 0) i ∧ sm (fun k => if cs V P s k then g k else 0) i ≤ B * (i : Int) := fun g B hB hg i => by
    induction i with
    | zero => exact fun _ => ⟨Int.le_refl _, by show (0 : Int) ≤ B * ((0 : Nat) : Int); rw [Int.natCast_zero, Int.mul_zero]; exact Int.le_refl _⟩
    | succ i ih =>
      intro hi
      have := ih (by omega)
      have e : sm (fun k => if cs V P s k then g k else 0) (i + 1) = sm (fun k => if cs V P s k then g k else 0) i + (if cs V P s i then g i else 0) := rfl
      have e2 : B * ((i + 1 : Nat) : Int) = B * (i : Int) + B := by
        rw [Int.natCast_add, Int.mul_add]
        show _ + B * 1 = _
        omega
      rw [e, e2]
      by_cases y : cs V P s i = true
      · have := hg i (by omega) y
        rw [if_pos y]
        omega
      · rw [if_neg y]
        omega
  have bV := bnd (V 11) 1000000 (by omega) (fun n hn z => by
    obtain ⟨e, -⟩ := csI n hn z
    have := t.we hn (by omega)
    omega)
  have bW := bnd (wsz P D a b x) 80000 (by omega) (fun n hn z => by
    obtain ⟨e, p⟩ := csI n hn z
    have := wsz_rg (a := a) (b := b) hx (bn n hn e p)
    omega)
  unfold fX9_weighs
  rw [j_nm, j_nm]
  refine lp (F := fun f (y : Sg × Int64 × Int64 × Int32) => fX9_weighs_8 462 f y.1 (oI (s : Int)) (nI D) y.2.1 y.2.2.1 y.2.2.2) (Q := fun o => ∃ σ', o = some σ' ∧ Out σ σ' 463 463 ∧ W3 (mv (σ.1 463)) (mv (σ'.1 463)) (fun n => decide (V 9 n = s)) (wG V P D a b s x)) (fun i y => y.2.2.2 = nI i ∧ Out σ y.1 463 463 ∧ W3 (mv (σ.1 463)) (mv (y.1.1 463)) (E1 V P s i) (wG V P D a b s x) ∧ y.2.1.toInt = sm (fun k => if cs V P s k then V 11 k else 0) (min i 23) ∧ y.2.2.1.toInt = sm (fun k => if cs V P s k then wsz P D a b x k else 0) (min i 23)) 24 ?_ ?_ 24 0 FU (σ, 0, 0, 0) rfl (by decide) ⟨rfl, Out.rf, ⟨fun _ _ => rfl, fun n hn => by
    unfold E1
    rw [decide_eq_false (show ¬ n < 0 by omega), Bool.false_and, if_neg Bool.false_ne_true]⟩, rfl, rfl⟩
  · rintro f i ⟨y, l3, l5, l⟩ hi ⟨rfl, hO, hW, h3, h5⟩
    simp only at hO hW h3 h5
    have ti : (nI i).toInt = i := j_nI (by omega)
    have nle : ¬ (24 : Int32) ≤ nI i := n_ge 24 (m := 24) rfl hi (by decide)
    have cki : ck (nI i) 24 := j_ckn hi (by decide)
    have ecl : (nI i).toNatClampNeg = i := j_cl _ (by omega)
    have skip : (i < 23 → cs V P s i = false) → ∃ x' : Sg × Int64 × Int64 × Int32, (x'.2.2.2 = nI (i + 1) ∧ Out σ x'.1 463 463 ∧ W3 (mv (σ.1 463)) (mv (x'.1.1 463)) (E1 V P s (i + 1)) (wG V P D a b s x) ∧ x'.2.1.toInt = sm (fun k => if cs V P s k then V 11 k else 0) (min (i + 1) 23) ∧ x'.2.2.1.toInt = sm (fun k => if cs V P s k then wsz P D a b x k else 0) (min (i + 1) 23)) ∧ fX9_weighs_96 462 (fX9_weighs_8 462 f) y (oI (s : Int)) (nI D) l3 l5 (nI i) = fX9_weighs_8 462 f x'.1 (oI (s : Int)) (nI D) x'.2.1 x'.2.2.1 x'.2.2.2 := fun e => by
      unfold fX9_weighs_96
      rw [j_s]
      have nx : ∀ g : Nat → Int, sm (fun k => if cs V P s k then g k else 0) (min (i + 1) 23) = sm (fun k => if cs V P s k then g k else 0) (min i 23) := fun g => by
        by_cases u : i < 23
        · rw [Nat.min_eq_left (show i + 1 ≤ 23 by omega), Nat.min_eq_left (show i ≤ 23 by omega)]
          show _ + (if cs V P s i then g i else 0) = _
          rw [e u, if_neg Bool.false_ne_true]
          omega
        · rw [Nat.min_eq_right (show 23 ≤ i + 1 by omega), Nat.min_eq_right (show 23 ≤ i by omega)]
      refine ⟨(y, l3, l5, nI (i + 1)), ⟨rfl, hO, hW.cg (fun n hn => ?_), by rw [nx]; exact h3, by rw [nx]; exact h5⟩, rfl⟩
      unfold E1
      by_cases v : n = i
      · rw [v, e (by omega), Bool.and_false, Bool.and_false]
      · have : decide (n < i + 1) = decide (n < i) := by
          by_cases u : n < i
          · rw [decide_eq_true u, decide_eq_true (by omega)]
          · rw [decide_eq_false u, decide_eq_false (by omega)]
        rw [this]
    show ∃ x' : Sg × Int64 × Int64 × Int32, _ ∧ fX9_weighs_8 462 (f + 1) y (oI (s : Int)) (nI D) l3 l5 (nI i) = _
    rw [fX9_weighs_8, if_neg nle, m_isChild ti hi, j_b, ts, hW.ch h t hi]
    by_cases z : i < 23 ∧ V 9 i = s
    · obtain ⟨i23, e9⟩ := z
      rw [decide_eq_true i23, decide_eq_true e9, if_pos (by rfl), if_pos cki]
      have s5 : y.1 (462 + 5) (nI i).toNatClampNeg = 0 ↔ ¬ P 1 i = 1 := by
        rw [ecl]
        show y.1 467 i = 0 ↔ _
        rw [hO.2 467 (by omega)]
        exact hp i i23 e9
      by_cases pi : P 1 i = 1
      · have ci : cs V P s i = true := by
          unfold cs
          rw [decide_eq_true e9, decide_eq_true pi]
          rfl
        have w1 := t.we i23 (show V 9 i ≠ -1 by omega)
        have Di : E1 V P s i i = false := by
          unfold E1
          rw [decide_eq_false (show ¬ i < i by omega), Bool.false_and]
        have u3 : mv (y.1 463) 3 i = V 11 i := by
          rw [hW.2 i i23, Di, if_neg Bool.false_ne_true]
          exact h.we i23 (by omega)
        have t11 : (oI (mv (y.1 463) 3 i)).toInt64.toInt = V 11 i := by rw [k_64, t_mv, u3]
        have bc := bn i i23 e9 pi
        have wsr := wsz_rg (a := a) (b := b) hx bc
        have b1 := bV i (by omega)
        have b2 := bW i (by omega)
        rw [Nat.min_eq_left (show i ≤ 23 by omega)] at h3 h5
        have e4 : (4 : Int32) * nI i + 2 + nI D = nI (4 * i + 2 + D) := by
          rw [show (4 : Int32) * nI i = nI (4 * i) from (Int32.ofNat_mul 4 i).symm, show (2 : Int32) = nI 2 from rfl, j_a, j_a]
        have e469 : y.1 (462 + 7) (nI (4 * i + 2 + D)).toNatClampNeg = σ.1 469 (4 * i + 2 + D) := by
          rw [j_cl _ (by omega)]
          show y.1 469 _ = _
          rw [hO.2 469 (by omega)]
        have qi := hq i i23 e9 pi
        have ch : -400 ≤ chg a b x i ∧ chg a b x i ≤ 400 := by
          unfold chg
          repeat' split
          all_goals omega
        have e100 : (100 : Int32).toInt = 100 := rfl
        have v6 : (100 * σ.1 469 (4 * i + 2 + D)).toInt = 100 * (P (6 + D) i + chg a b x i) := by
          rw [j_mul (by rw [qi, e100]; omega) (by rw [qi, e100]; omega), qi, e100]
        rw [if_neg (fun v => (s5.mp v) pi), m_i3 ti hi, j_b, j_nm, e4, if_pos (j_ckn (by omega) (by decide)), e469, j_nm]
        generalize 100 * σ.1 469 (4 * i + 2 + D) = v at v6
        have put : ∀ u : Int32, u.toInt = wsz P D a b x i → ∃ x' : Sg × Int64 × Int64 × Int32, (x'.2.2.2 = nI (i + 1) ∧ Out σ x'.1 463 463 ∧ W3 (mv (σ.1 463)) (mv (x'.1.1 463)) (E1 V P s (i + 1)) (wG V P D a b s x) ∧ x'.2.1.toInt = sm (fun k => if cs V P s k then V 11 k else 0) (min (i + 1) 23) ∧ x'.2.2.1.toInt = sm (fun k => if cs V P s k then wsz P D a b x k else 0) (min (i + 1) 23)) ∧ fX9_weighs_80 462 (fX9_weighs_8 462 f) y (oI (s : Int)) (nI D) (l3 + (oI (mv (y.1 463) 3 i)).toInt64) l5 (nI i) (nI i) 3 u = fX9_weighs_8 462 f x'.1 (oI (s : Int)) (nI D) x'.2.1 x'.2.2.1 x'.2.2.2 := fun u hu => by
          obtain ⟨x2, b2', w2, u2⟩ := m_l3 (σ := y) ti hi u
          have r12 : mv (x2.1 463) 3 i = wsz P D a b x i := by rw [u2, mu_at, if_pos rfl, hu]
          have t12 : (oI (mv (x2.1 463) 3 i)).toInt64.toInt = wsz P D a b x i := by rw [k_64, t_mv, r12]
          unfold fX9_weighs_80 fX9_weighs_96
          rw [b2', j_b, m_i3 ti hi, j_b, j_nm, j_s]
          refine ⟨(x2, l3 + (oI (mv (y.1 463) 3 i)).toInt64, l5 + (oI (mv (x2.1 463) 3 i)).toInt64, nI (i + 1)), ⟨rfl, hO.tr w2, hW.up (c := i) (by rw [u2, hu]; unfold wG; rw [if_pos pi]) (fun n hn => ?_), ?_, ?_⟩, rfl⟩
          · unfold E1
            by_cases v : n = i
            · rw [v, decide_eq_true (show i < i + 1 by omega), ci, decide_eq_true rfl, Bool.or_true]
              rfl
            · have : decide (n < i + 1) = decide (n < i) := by
                by_cases u : n < i
                · rw [decide_eq_true u, decide_eq_true (by omega)]
                · rw [decide_eq_false u, decide_eq_false (by omega)]
              rw [this, decide_eq_false v, Bool.or_false]
          · show (l3 + (oI (mv (y.1 463) 3 i)).toInt64).toInt = _
            rw [Nat.min_eq_left (show i + 1 ≤ 23 by omega), k_add (by rw [h3, t11]; omega) (by rw [h3, t11]; omega), h3, t11]
            show _ = _ + (if cs V P s i then V 11 i else 0)
            rw [if_pos ci]
          · show (l5 + (oI (mv (x2.1 463) 3 i)).toInt64).toInt = _
            rw [Nat.min_eq_left (show i + 1 ≤ 23 by omega), k_add (by rw [h5, t12]; omega) (by rw [h5, t12]; omega), h5, t12]
            show _ = _ + (if cs V P s i then wsz P D a b x i else 0)
            rw [if_pos ci]
        by_cases u : 1 < 100 * (P (6 + D) i + chg a b x i)
        · rw [if_neg (show ¬ v ≤ 1 by rw [j_le, v6, jz1]; omega)]
          exact put v (by rw [v6]; unfold wsz; rw [if_pos u])
        · rw [if_pos (show v ≤ 1 by rw [j_le, v6, jz1]; omega)]
          exact put 1 (by unfold wsz; rw [if_neg u]; rfl)
      · rw [if_pos (s5.mpr pi)]
        exact skip (fun _ => by
          unfold cs
          rw [decide_eq_false pi, Bool.and_false])
    · have c0 : ¬ (decide (i < 23) && decide (V 9 i = s)) = true := fun v => by
        simp only [Bool.and_eq_true, decide_eq_true_eq] at v
        exact z v
      rw [if_neg c0]
      exact skip (fun u => by
        unfold cs
        rw [decide_eq_false (fun w => z ⟨u, w⟩), Bool.false_and])
  · rintro f ⟨y, l3, l5, l⟩ ⟨rfl, hO, hW, h3, h5⟩
    simp only at hO hW h3 h5
    rw [Nat.min_eq_right (show 23 ≤ 24 by omega)] at h3 h5
    have bl := bV 23 (by omega)
    have tl := bW 23 (by omega)
    rw [SmE] at h3 h5 bl tl
    have apl : a ∈ pls V P s := (mem a).mpr ⟨ha, e9a, pa⟩
    have b1 : V 11 a ≤ Sm (V 11) (pls V P s) := Sm_mem (fun c hc => by
      have := (mem c).mp hc
      have := (t.we this.1 (by omega)).1
      omega) apl
    have w1 := t.we ha (show V 9 a ≠ -1 by omega)
    show ∃ σ', fX9_weighs_8 462 (f + 1) y (oI (s : Int)) (nI D) l3 l5 (nI 24) = _ ∧ _
    rw [fX9_weighs_8, if_pos (n_le 24 (m := 24) rfl (by decide))]
    obtain ⟨σ', a1, o1, v1⟩ := m_we105 (σ := y) (P := P) h t hs (G := wG V P D a b s x) (T := Sm (wsz P D a b x) (pls V P s)) (B := Sm (V 11) (pls V P s)) h3 h5 (by omega) (by omega) (fun c hc e z => by unfold wG; rw [if_neg z]) (fun c hc e => by rw [hO.2 467 (by omega)]; exact hp c hc e) (hW.cg (fun n hn => by
      unfold E1 E2 cs
      rw [decide_eq_true (show n < 24 by omega), decide_eq_false (show ¬ n < 0 by omega), Bool.true_and, Bool.or_false]))
    exact ⟨σ', a1, hO.tr o1, v1⟩
end RAL

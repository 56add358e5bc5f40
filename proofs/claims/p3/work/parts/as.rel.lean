/-! THE RELATION: hits (3) -/
section RAS
variable {s : Sg} {V : VW} {d : Nat → Nat} {wn : Nat → Int}
theorem many_le {V : VW} (tb : Tabs V (fun _ => false)) {g : Nat} (hg : g < 23) (kg : V 8 g = 2) : cnt (fun p => decide (V 13 p = g) && decide (V 15 p = 0)) 12 ≤ cnt (v_ok V g) (v_tc V g) := by
  have nu := tb.nu hg kg
  have e1 := cnt_ends (fun p => if V 13 p = g ∧ V 15 p = 0 then V 14 p else -1) (v_tc V g) 12
  have e2 : cnt (fun i => decide (0 ≤ (if V 13 i = g ∧ V 15 i = 0 then V 14 i else -1) ∧ (if V 13 i = g ∧ V 15 i = 0 then V 14 i else -1) < v_tc V g)) 12 = cnt (fun p => decide (V 13 p = g) && decide (V 15 p = 0)) 12 := cnt_congr (fun i hi => by
    by_cases z : V 13 i = g ∧ V 15 i = 0
    · have := nu.1 i hi (by simp [z.1])
      have tc : v_tc V g = cnt (fun p => decide (V 13 p = g)) 12 := rfl
      rw [if_pos z, decide_eq_true z.1, decide_eq_true z.2, decide_eq_true (by omega)]
      rfl
    · rw [if_neg z, decide_eq_false (by omega)]
      by_cases a : V 13 i = g
      · rw [decide_eq_true a, decide_eq_false (fun u => z ⟨a, u⟩)]
        rfl
      · rw [decide_eq_false a]
        rfl)
  rw [e2] at e1
  have e3 : sm (fun s => (cnt (fun i => decide ((if V 13 i = g ∧ V 15 i = 0 then V 14 i else -1) = (s : Int))) 12 : Int)) (v_tc V g) ≤ sm (fun s => if v_ok V g s then 1 else 0) (v_tc V g) := sm_le (fun k hk => by
    have one : cnt (fun i => decide ((if V 13 i = g ∧ V 15 i = 0 then V 14 i else -1) = (k : Int))) 12 ≤ 1 := cnt_le1 (fun i j hi hj ci cj => by
      have ci := of_decide_eq_true ci
      have cj := of_decide_eq_true cj
      have zi : V 13 i = g ∧ V 15 i = 0 := by
        refine Classical.byContradiction (fun z => ?_)
        rw [if_neg z] at ci
        omega
      have zj : V 13 j = g ∧ V 15 j = 0 := by
        refine Classical.byContradiction (fun z => ?_)
        rw [if_neg z] at cj
        omega
      rw [if_pos zi] at ci
      rw [if_pos zj] at cj
      exact nu.2.2 i j hi hj (by simp [zi.1]) (by simp [zj.1]) (by omega))
    by_cases z : 1 ≤ cnt (fun i => decide ((if V 13 i = g ∧ V 15 i = 0 then V 14 i else -1) = (k : Int))) 12
    · obtain ⟨i, hi, ci⟩ := cnt_ex z
      have ci := of_decide_eq_true ci
      have zi : V 13 i = g ∧ V 15 i = 0 := by
        refine Classical.byContradiction (fun z => ?_)
        rw [if_neg z] at ci
        omega
      rw [if_pos zi] at ci
      have ok := v_ok_at nu hi zi.1 (by omega)
      rw [ci, Int.toNat_natCast] at ok
      rw [ok, if_pos rfl]
      omega
    · split <;> omega)
  have e4 := sm_cnt (v_ok V g) (v_tc V g)
  omega
theorem cnt_step (c : Nat → Bool) (n : Nat) : cnt c (n + 1) = cnt c n + (if c n then 1 else 0) := rfl
theorem cnt_mo {c : Nat → Bool} {a b : Nat} (h : a ≤ b) : cnt c a ≤ cnt c b := by
  induction b with
  | zero => rw [show a = 0 by omega]; exact Nat.le_refl _
  | succ b ih =>
    by_cases z : a = b + 1
    · rw [z]; exact Nat.le_refl _
    · have := ih (by omega)
      rw [cnt_step]
      omega
theorem m_159 (h : VM (mv (s.1 463)) V (fun _ => false)) (tb : Tabs V (fun _ => false)) {g : Nat} (hg : g < 23) (kg : V 8 g = 2) : ∀ (m fuel k : Nat) (l6 : Int32), k + m = v_tc V g → m < fuel → l6.toInt + 1 + cnt (v_ok V g) k ≤ cnt (v_ok V g) (v_tc V g) → 1 + cnt (v_ok V g) k ≤ cnt (v_ok V g) (v_tc V g) → TS (fX9_paneAt_159 462 fuel s (nI g) l6 (nI k)) s := by
  intro m
  induction m with
  | zero =>
    intro fuel k l6 hk _ _ h2
    rw [show k = v_tc V g by omega] at h2
    omega
  | succ m ih =>
    intro fuel k l6 hk hf h1 h2
    match fuel with
    | f + 1 =>
      have tc12 := v_tc_rg V g
      have nu := tb.nu hg kg
      obtain ⟨q, hq, eq, e13, e14⟩ := v_ta_ex nu (show k < v_tc V g by omega)
      have tg : (nI g).toInt = g := j_nI (by omega)
      have tk : (nI k).toInt = k := j_nI (by omega)
      have tq : (oI (q : Int)).toInt = q := j_oI (by omega) (by omega)
      have ta : fX9_tabAt s 462 (nI g) (nI k) = some (oI (q : Int)) := by
        rw [m_tabAt, tg, tk, h.ta (by omega), eq]
      have o5 : fX9_of s 462 (oI (q : Int)) 5 = some (oI (V 15 q)) := by rw [m_o5 tq hq, h.hi hq]
      have okq : v_ok V g k = decide (V 15 q ≠ 1) := by
        unfold v_ok
        rw [eq, v_hd_in hq, decide_eq_true (by omega), Bool.true_and]
        by_cases z : V 15 q = 1
        · rw [decide_eq_true z, decide_eq_false (fun w => w z)]
          rfl
        · rw [decide_eq_false z, decide_eq_true z]
          rfl
      have ck := cnt_step (v_ok V g) k
      -- one tab on
      have next : (0 < l6.toInt ∨ V 15 q = 1) → TS (fX9_paneAt_180 462 (fX9_paneAt_159 462 f) s (nI g) l6 (nI k)) s := fun hn => by
        unfold fX9_paneAt_180 fX9_paneAt_203
        rw [ta, j_b, o5, j_b, j_s]
        rcases tb.hi hq with z | z
        · have l0 : 0 < l6.toInt := by omega
          rw [okq, decide_eq_true (by omega), if_pos rfl] at ck
          rw [z, if_neg (by decide), j_nm]
          have es : (l6 - 1).toInt = l6.toInt - 1 := by
            have := j_hi l6
            rw [j_sub (by rw [jz1]; omega) (by rw [jz1]; omega), jz1]
          exact ih f (k + 1) (l6 - 1) (by omega) (by omega) (by rw [es]; omega) (by omega)
        · rw [okq, z, decide_eq_false (fun w => w rfl), if_neg Bool.false_ne_true] at ck
          rw [z, if_pos (show oI (1 : Int) = (1 : Int32) from rfl), j_nm]
          have es : l6 - 0 = l6 := by
            refine j_eq.mpr ?_
            have := j_hi l6
            have := j_lo l6
            rw [j_sub (by rw [jz0]; omega) (by rw [jz0]; omega), jz0]
            omega
          rw [es]
          exact ih f (k + 1) l6 (by omega) (by omega) (by omega) (by omega)
      rw [fX9_paneAt_159]
      refine TS.i (fun hp => ?_) (fun hp => ?_)
      · rw [j_lt, jz0] at hp
        exact next (Or.inl hp)
      · rw [ta, j_b, o5, j_b]
        refine TS.i (fun e => ?_) (fun e => ?_)
        · refine next (Or.inr ?_)
          rcases tb.hi hq with z | z
          · rw [z] at e
            exact absurd e (by decide)
          · exact z
        · rw [j_b]
          exact TS.so _
theorem m_pane50 (h : VM (mv (s.1 463)) V (fun _ => false)) (tb : Tabs V (fun _ => false)) {g : Nat} (hg : g < 23) (kg : V 8 g = 2) (hv : ∃ p, p < 12 ∧ vis V g p = true) (x : Int32) : TS (fX9_paneAt_50 462 FU s x (nI g) 0 0) s := by
  have tg : (nI g).toInt = g := j_nI (by omega)
  have c4 : (4 : Int32) * nI g = nI (4 * g) := (Int32.ofNat_mul 4 g).symm
  refine lp (F := fun f (z : Int32 × Int32) => fX9_paneAt_50 462 f s x (nI g) z.1 z.2) (Q := fun o => TS o s) (fun i z => z = (nI (cnt (fun p => decide (V 13 p = g) && decide (V 15 p = 0)) i), nI i)) 12 ?_ ?_ 12 0 FU (0, 0) rfl (by decide) rfl
  · rintro f i _ hi rfl
    have ti : (nI i).toInt = i := j_nI (by omega)
    have nle : ¬ (12 : Int32) ≤ nI i := n_ge 12 (m := 12) rfl hi (by decide)
    refine ⟨_, rfl, ?_⟩
    show fX9_paneAt_50 462 (f + 1) s x (nI g) (nI (cnt (fun p => decide (V 13 p = g) && decide (V 15 p = 0)) i)) (nI i) = fX9_paneAt_50 462 f s x (nI g) (nI (cnt (fun p => decide (V 13 p = g) && decide (V 15 p = 0)) (i + 1))) (nI (i + 1))
    rw [fX9_paneAt_50, if_neg nle, m_o3 ti hi, j_b, h.gr hi, m_o5 ti hi, j_b, h.hi hi, cnt_step]
    unfold fX9_paneAt_84 fX9_paneAt_85
    rw [j_nm, j_nm, j_s, j_s]
    have z0 : ∀ a : Int32, a + 0 = a := fun a => by simp
    have r13 : -2147483648 ≤ V 13 i ∧ V 13 i < 2147483648 := by rw [← h.gr hi]; exact mv_rg _ _ _
    by_cases a : V 13 i = g
    · rw [if_pos (by rw [a, j_nIo g (by omega)]), decide_eq_true a, Bool.true_and]
      rcases tb.hi hi with z | z
      · rw [z, if_pos (show oI (0 : Int) = (0 : Int32) from rfl), decide_eq_true rfl, if_pos rfl]
      · rw [z, if_neg (show ¬ oI (1 : Int) = (0 : Int32) by decide), decide_eq_false (show ¬ (1 : Int) = 0 by omega), if_neg Bool.false_ne_true, z0]
        rfl
    · rw [if_neg (fun e => a (by rw [j_eq, j_oI r13.1 r13.2, tg] at e; exact e)), decide_eq_false a, Bool.false_and, if_neg Bool.false_ne_true, z0]
      rfl
  · rintro f _ rfl
    show TS (fX9_paneAt_50 462 (f + 1) s x (nI g) (nI (cnt (fun p => decide (V 13 p = g) && decide (V 15 p = 0)) 12)) (nI 12)) s
    have ml := many_le tb hg kg
    have m12 := cnt_le (fun p => decide (V 13 p = g) && decide (V 15 p = 0)) 12
    obtain ⟨p, hp, vp⟩ := hv
    have m1 : 1 ≤ cnt (fun p => decide (V 13 p = g) && decide (V 15 p = 0)) 12 := cnt_pos hp vp
    generalize cnt (fun p => decide (V 13 p = g) && decide (V 15 p = 0)) 12 = M at *
    have tM : (nI M).toInt = M := j_nI (by omega)
    have nM : ¬ nI M = 0 := fun z => by rw [j_eq, tM, jz0] at z; omega
    have eM1 : (nI M - 1).toInt = (M : Int) - 1 := by
      rw [j_sub (by rw [tM, jz1]; omega) (by rw [tM, jz1]; omega), tM, jz1]
    have cnt0 : cnt (v_ok V g) 0 = 0 := rfl
    have tc12 := v_tc_rg V g
    have fin : ∀ l6 : Int32, l6.toInt ≤ (M : Int) - 1 → TS (fX9_paneAt_154 462 s (nI g) l6) s := fun l6 hl => by
      unfold fX9_paneAt_154
      exact m_159 h tb hg kg (v_tc V g) FU 0 l6 (by omega) (by show _ < 6000; omega) (by rw [cnt0]; omega) (by rw [cnt0]; omega)
    rw [fX9_paneAt_50, if_pos (n_le 12 (m := 12) rfl (by decide)), c4, show (2 : Int32) = nI 2 from rfl, j_a, if_pos (j_ckn (by omega) (by decide)), if_neg nM, j_nm]
    unfold fX9_paneAt_134
    refine TS.i (fun _ => fin _ (by rw [eM1]; exact Int.le_refl _)) (fun n0 => ?_)
    rw [if_pos (j_ckn (by omega) (by decide)), if_neg n0]
    refine TS.i (fun le => ?_) (fun _ => fin _ (by rw [eM1]; exact Int.le_refl _))
    rw [j_le, eM1] at le
    rw [if_pos (j_ckn (by omega) (by decide)), if_neg n0]
    exact fin _ le
theorem hit_pre {σ : Sg} {S : ST} {l : List ST} (c : CR σ S l) (m : MR σ S l) (tx : TX σ) : ∃ s4, fX9_lays (su σ 462 3 0) 462 = some s4 ∧ RR s4 ∧ MR s4 S l ∧ Lay (S_pl S) (S_mw S) (S_mh S) (mq s4) := by
  obtain ⟨s4, b4, g4, m4, -, L4⟩ := m_ly (m.s3 (k := 0)) c.2.2.1
  exact ⟨s4, b4, RR.mk9 c tx (Or.inr ⟨0, G9.s3.tr g4⟩) m4, m4, L4⟩
theorem c_kindAt {σ : Sg} (h : RR σ) (x y : Int32) : PT (fX8_kindAt σ x y) (fX9_kindAt σ 462 x y) := by
  obtain ⟨S, l, c, m, tx⟩ := h
  have hS := c.2.2.1
  obtain ⟨-, -, -, -, ⟨d, wn, t, tb, lo, ge⟩, -, -⟩ := id hS
  have ok : OkO (odv σ (1 + 5 + 6)) := by
    rw [← odp_odv, S_pv c.1]
    exact lo.ok (by decide)
  obtain ⟨v, ev⟩ := t_kindAt ok x y
  obtain ⟨s4, b4, R4, m4, L4⟩ := hit_pre c m tx
  obtain ⟨b, eb⟩ := m_kindT (s := s4) m4.2.2.1 t (fun n hn k => (L4.1 n hn k).1) lo x y
  refine ⟨v, b, s4, ev, ?_, R4⟩
  unfold fX9_kindAt
  rw [j_nm, b4, j_b]
  exact eb
theorem c_paneAt {σ : Sg} (h : RR σ) (x y : Int32) : PT (fX8_paneAt σ x y) (fX9_paneAt σ 462 x y) := by
  obtain ⟨S, l, c, m, tx⟩ := h
  have hS := c.2.2.1
  obtain ⟨-, -, -, -, ⟨d, wn, t, tb, lo, ge⟩, -, -⟩ := id hS
  have ok : OkO (odv σ (1 + 5 + 6)) := by
    rw [← odp_odv, S_pv c.1]
    exact lo.ok (by decide)
  obtain ⟨v, ev⟩ := t_paneAt ok x y
  obtain ⟨s4, b4, R4, m4, L4⟩ := hit_pre c m tx
  have vm := m4.2.2.1
  have fin : TS (fX9_paneAt σ 462 x y) s4 := by
    unfold fX9_paneAt
    rw [j_nm, b4, j_b]
    obtain ⟨g, eg, hg⟩ := m_gAt vm t (fun n hn k => (L4.1 n hn k).1) lo x y
    rw [eg, j_b]
    refine TS.i (fun _ => TS.so _) (fun hn => ?_)
    obtain ⟨n, h23, e2, k2, p1⟩ := hg.resolve_left hn
    rw [e2, show (4 : Int32) * nI n = nI (4 * n) from (Int32.ofNat_mul 4 n).symm, j_s, if_pos (j_ckn (by omega) (by decide))]
    refine TS.i (fun _ => m_pane50 vm tb h23 k2 ((L4.1 n h23 k2).2.1.mp p1) x) (fun _ => ?_)
    rw [m_i5 (j_nI (by omega)) (by omega), j_b]
    exact TS.so _
  obtain ⟨b, eb⟩ := fin
  exact ⟨v, b, s4, ev, eb, R4⟩
theorem c_dropAt {σ : Sg} (h : RR σ) (x y : Int32) : PT (fX8_dropAt σ x y) (fX9_dropAt σ 462 x y) := by
  obtain ⟨S, l, c, m, tx⟩ := h
  have hS := c.2.2.1
  obtain ⟨-, -, -, -, ⟨d, wn, t, tb, lo, ge⟩, -, -⟩ := id hS
  have ok : OkO (odv σ (1 + 5 + 6)) := by
    rw [← odp_odv, S_pv c.1]
    exact lo.ok (by decide)
  obtain ⟨v, ev⟩ := t_dropAt ok x y
  obtain ⟨s4, b4, R4, m4, L4⟩ := hit_pre c m tx
  have vm := m4.2.2.1
  have fin : TS (fX9_dropAt σ 462 x y) s4 := by
    unfold fX9_dropAt
    rw [j_nm, b4, j_b]
    obtain ⟨g, eg, hg⟩ := m_gAt vm t (fun n hn k => (L4.1 n hn k).1) lo x y
    rw [eg, j_b]
    refine TS.i (fun _ => TS.so _) (fun hn => ?_)
    obtain ⟨n, h23, e2, k2, p1⟩ := hg.resolve_left hn
    rw [e2, show (4 : Int32) * nI n = nI (4 * n) from (Int32.ofNat_mul 4 n).symm, show (2 : Int32) = nI 2 from rfl, show (3 : Int32) = nI 3 from rfl, j_a, j_a, if_pos (j_ckn (by omega) (by decide)), j_nm, if_pos (j_ckn (by omega) (by decide)), j_nm]
    exact m_dropT vm h23 x y _ _
  obtain ⟨b, eb⟩ := fin
  exact ⟨v, b, s4, ev, eb, R4⟩
end RAS

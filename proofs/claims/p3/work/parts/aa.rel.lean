/-! THE RELATION: moveTab, activate -/
section RAA
theorem v_step_rg (o k t : Int) : -1 ≤ v_step o k t ∧ v_step o k t ≤ 1 := by
  unfold v_step
  split
  · omega
  · split <;> omega
/-- the reference's row behind the loop -/
def mtU (U : VW) (p : Nat) (o k : Int) (n : Nat) : VW := fun j i => if j = 10 ∧ i < n ∧ U 9 i = U 9 p then U 10 i + v_step o k (U 10 i) else U j i
theorem mtU_s {U : VW} {p n : Nat} {o k : Int} (h : U 9 n = U 9 p) : mtU U p o k (n + 1) = mu (mtU U p o k n) 10 n (U 10 n + v_step o k (U 10 n)) := by
  funext j i
  rw [mu_def]
  unfold mtU
  by_cases a : j = 10 ∧ i = n
  · rw [if_pos ⟨a.1, by omega, by rw [a.2]; exact h⟩, if_pos a, a.2]
  · rw [if_neg a]
    by_cases b : j = 10 ∧ i < n ∧ U 9 i = U 9 p
    · rw [if_pos b, if_pos ⟨b.1, by omega, b.2.2⟩]
    · rw [if_neg b, if_neg (fun z => b ⟨z.1, by omega, z.2.2⟩)]
theorem mtU_n {U : VW} {p n : Nat} {o k : Int} (h : U 9 n ≠ U 9 p) : mtU U p o k (n + 1) = mtU U p o k n := by
  funext j i
  unfold mtU
  by_cases b : j = 10 ∧ i < n ∧ U 9 i = U 9 p
  · rw [if_pos b, if_pos ⟨b.1, by omega, b.2.2⟩]
  · rw [if_neg b, if_neg (fun z => b ⟨z.1, by
      have : i ≠ n := fun y => h (by rw [← y]; exact z.2.2)
      omega, z.2.2⟩)]
theorem m_mt91 {σ : Sg} {p : Int32} {k : Nat} (hp : p.toInt = k) (hk : k < 12) {t o : Int32} (hr : ∀ i, i < 12 → mv (σ.1 463) 9 i = mv (σ.1 463) 9 k → 0 ≤ mv (σ.1 463) 10 i ∧ mv (σ.1 463) 10 i < 12) : ∃ σ', fX9_moveTab_91 462 FU σ p t o 0 = some (o, σ') ∧ Out σ σ' 463 463 ∧ mv (σ'.1 463) = mu (mtU (mv (σ.1 463)) k o.toInt t.toInt 12) 10 k t.toInt := by
  refine lp (F := fun f (s : Sg × Int32) => fX9_moveTab_91 462 f s.1 p t o s.2) (Q := fun r => ∃ σ', r = some (o, σ') ∧ Out σ σ' 463 463 ∧ mv (σ'.1 463) = mu (mtU (mv (σ.1 463)) k o.toInt t.toInt 12) 10 k t.toInt) (fun i s => s.2 = nI i ∧ Out σ s.1 463 463 ∧ mv (s.1.1 463) = mtU (mv (σ.1 463)) k o.toInt t.toInt i) 12 ?_ ?_ 12 0 FU (σ, 0) rfl (by decide) ⟨rfl, Out.rf, by
    funext j i
    unfold mtU
    rw [if_neg (by omega)]⟩
  · rintro f i ⟨s, l⟩ hi ⟨rfl, hO, hU⟩
    simp only at hO hU
    have ei : (nI i).toInt = i := j_nI (by omega)
    have nle : ¬ (12 : Int32) ≤ nI i := n_ge 12 (m := 12) rfl hi (by decide)
    have U9 : ∀ n, mv (s.1 463) 9 n = mv (σ.1 463) 9 n := fun n => by
      rw [hU]
      unfold mtU
      rw [if_neg (by omega)]
    have U10 : mv (s.1 463) 10 i = mv (σ.1 463) 10 i := by
      rw [hU]
      unfold mtU
      rw [if_neg (by omega)]
    show ∃ s' : Sg × Int32, _ ∧ fX9_moveTab_91 462 (f + 1) s p t o (nI i) = _
    rw [fX9_moveTab_91, if_neg nle, m_o3 ei hi, j_b, m_o3 hp hk, j_b, U9, U9]
    by_cases q : mv (σ.1 463) 9 i = mv (σ.1 463) 9 k
    · obtain ⟨r0, r1⟩ := hr i hi q
      rw [if_pos (by rw [q]), m_o4 ei hi, j_b, U10]
      have tv : (oI (mv (σ.1 463) 10 i)).toInt = mv (σ.1 463) 10 i := t_mv
      have one : (1 : Int32).toInt = 1 := rfl
      -- one row is written
      have wr1 : ∀ v : Int32, v.toInt = mv (σ.1 463) 10 i + v_step o.toInt t.toInt (mv (σ.1 463) 10 i) → ∃ s' : Sg × Int32, (s'.2 = nI (i + 1) ∧ Out σ s'.1 463 463 ∧ mv (s'.1.1 463) = mtU (mv (σ.1 463)) k o.toInt t.toInt (i + 1)) ∧ fX9_moveTab_169 462 (fX9_moveTab_91 462 f) s p t o (nI i) (nI i) 4 v = fX9_moveTab_91 462 f s'.1 p t o s'.2 := fun v hv => by
        obtain ⟨s2, b2, w2, u2⟩ := m_p4 (σ := s) ei hi v
        unfold fX9_moveTab_169 fX9_moveTab_172
        rw [b2, j_b, j_s]
        refine ⟨(s2, nI (i + 1)), ⟨rfl, hO.tr w2, ?_⟩, rfl⟩
        show mv (s2.1 463) = _
        rw [u2, hU, hv, mtU_s q]
      have c147 : (o.toInt ≤ mv (σ.1 463) 10 i → v_step o.toInt t.toInt (mv (σ.1 463) 10 i) = 0) → ∃ s' : Sg × Int32, (s'.2 = nI (i + 1) ∧ Out σ s'.1 463 463 ∧ mv (s'.1.1 463) = mtU (mv (σ.1 463)) k o.toInt t.toInt (i + 1)) ∧ fX9_moveTab_147 462 (fX9_moveTab_91 462 f) s p t o (nI i) (oI (mv (σ.1 463) 10 i)) (nI i) 4 = fX9_moveTab_91 462 f s'.1 p t o s'.2 := fun h0 => by
        unfold fX9_moveTab_147 fX9_moveTab_167
        by_cases a : o ≤ oI (mv (σ.1 463) 10 i)
        · rw [if_pos a]
          rw [j_le, tv] at a
          exact wr1 _ (by rw [tv, h0 a]; omega)
        · rw [if_neg a]
          rw [j_le, tv] at a
          by_cases b : oI (mv (σ.1 463) 10 i) < t
          · rw [if_pos b]
            rw [j_lt, tv] at b
            refine wr1 _ ?_
            have : v_step o.toInt t.toInt (mv (σ.1 463) 10 i) = 0 := by
              unfold v_step
              rw [if_neg (by omega), if_neg (by omega)]
            rw [tv, this]
            omega
          · rw [if_neg b]
            rw [j_lt, tv] at b
            refine wr1 _ ?_
            have : v_step o.toInt t.toInt (mv (σ.1 463) 10 i) = 1 := by
              unfold v_step
              rw [if_neg (by omega), if_pos (by omega)]
            rw [this, j_add (by rw [tv, one]; omega) (by rw [tv, one]; omega), tv, one]
      by_cases a : oI (mv (σ.1 463) 10 i) ≤ o
      · rw [if_pos a]
        rw [j_le, tv] at a
        refine c147 (fun z => ?_)
        unfold v_step
        rw [if_neg (by omega), if_neg (by omega)]
      · rw [if_neg a]
        rw [j_le, tv] at a
        by_cases b : t < oI (mv (σ.1 463) 10 i)
        · rw [if_pos b]
          rw [j_lt, tv] at b
          refine c147 (fun z => ?_)
          unfold v_step
          rw [if_neg (by omega), if_neg (by omega)]
        · rw [if_neg b]
          rw [j_lt, tv] at b
          refine wr1 _ ?_
          have : v_step o.toInt t.toInt (mv (σ.1 463) 10 i) = -1 := by
            unfold v_step
            rw [if_pos (by omega)]
          rw [this, j_sub (by rw [tv, one]; omega) (by rw [tv, one]; omega), tv, one]
          omega
    · have ne : ¬ oI (mv (σ.1 463) 9 i) = oI (mv (σ.1 463) 9 k) := fun z => q (by
        rw [j_eq, t_mv, t_mv] at z
        exact z)
      rw [if_neg ne]
      unfold fX9_moveTab_172
      rw [j_s]
      exact ⟨(s, nI (i + 1)), ⟨rfl, hO, by rw [mtU_n q]; exact hU⟩, rfl⟩
  · rintro f ⟨s, l⟩ ⟨rfl, hO, hU⟩
    simp only at hO hU
    show ∃ σ', fX9_moveTab_91 462 (f + 1) s p t o (nI 12) = _ ∧ _
    obtain ⟨s2, b2, w2, u2⟩ := m_p4 (σ := s) hp hk t
    rw [fX9_moveTab_91, if_pos (n_le 12 (m := 12) rfl (by decide)), b2, j_b]
    exact ⟨s2, rfl, hO.tr w2, by rw [u2, hU]⟩
theorem move_rows {V : VW} {X : Nat → Bool} (h : Tabs V X) {p g : Nat} (hp : p < 12) (e : V 13 p = g) (k : Int) : (∀ i, i < 12 → v_move V p k 14 i = if i = p then k else if V 13 i = g then V 14 i + v_step (V 14 p) k (V 14 i) else V 14 i) := by
  intro i hi
  unfold v_move
  rw [up14 hp, ga_in hp, ga_in hp, e]
  by_cases z : i = p
  · rw [if_pos z, if_pos z]
  · rw [if_neg z, if_neg z]
    show (if 14 = 14 ∧ i < 12 ∧ V 13 i = g then _ else _) = _
    by_cases q : V 13 i = g
    · have a := h.sp hi
      have b := v_step_rg (V 14 p) k (V 14 i)
      rw [if_pos ⟨rfl, hi, q⟩, if_pos q, wr_id (by omega) (by omega)]
    · rw [if_neg (fun w => q w.2.2), if_neg q]
theorem Tabs.mov {V : VW} (h : Tabs V (fun _ => false)) {p g : Nat} (hp : p < 12) (e : V 13 p = g) {k : Int} (hk : 0 ≤ k ∧ k < v_tc V g) : Tabs (v_move V p k) (fun _ => false) := by
  have rr := fun j (hj : j ≠ 14) => v_move_ne (V := V) (p := p) (k := k) hj
  have r14 := move_rows h hp e k
  refine ⟨fun q hq => ?_, fun q hq z => ?_, fun q hq => ?_, fun s hs ks => ?_⟩
  · rw [rr 13 (by omega), rr 8 (by omega)]
    exact h.gr hq
  · rw [rr 13 (by omega)] at z
    rw [rr 15 (by omega), r14 q hq, if_neg (fun w => by rw [w] at z; omega), if_neg (by omega)]
    exact h.no hq z
  · rw [rr 15 (by omega)]
    exact h.hi hq
  · rw [rr 8 (by omega)] at ks
    obtain ⟨f1, f2⟩ := h.fu hs ks rfl
    have m := h.nu hs ks
    rw [rr 13 (by omega)]
    refine ⟨?_, fun _ => ⟨f1, f2.cg (by rw [rr 12 (by omega)]) (fun q _ => by rw [rr 13 (by omega)]) (fun q _ _ => by rw [rr 15 (by omega)])⟩⟩
    by_cases z : s = g
    · subst z
      refine m.mov (i0 := p) (k0 := k) hp (by simp [e]) ?_ ?_ (fun i hi ne hm => ?_)
      · unfold v_tc at hk
        exact hk
      · rw [r14 p hp, if_pos rfl]
      · simp only [decide_eq_true_eq] at hm
        rw [r14 i hi, if_neg ne, if_pos hm]
    · refine m.cg (fun i hi => rfl) (fun i hi hm => ?_)
      simp only [decide_eq_true_eq] at hm
      have : i ≠ p := fun w => by
        rw [w, e] at hm
        omega
      rw [r14 i hi, if_neg this, if_neg (by omega)]
theorem c_moveTab {σ : Sg} (h : RR σ) (p t : Int32) : PI (fL_moveTab σ p t 476 1) (fun s => fX9_moveTab s 462 p t) := by
  obtain ⟨S, l, c, m, tx⟩ := h
  have h1 := c.1
  have hS := c.2.2.1
  have hR : RR σ := ⟨S, l, c, m, tx⟩
  cases q : exP S p
  · refine pi_no (k := 1) (b := 0) hR ?_ (by decide) ?_
    · unfold fL_moveTab fX8_moveTab
      rw [s_reqP (by rw [h1]; exact hS), h1, q]
      rfl
    · show fX9_moveTab σ 462 p t = _
      unfold fX9_moveTab fX9_moveTab_22 fX9_moveTab_23 fX9_moveTab_68
      rw [m_isP m.2, j_b, q, rf1]
      rfl
  · obtain ⟨k, hk, hk12, ek⟩ := exP_n q
    cases qp : plc (S_pl S) k
    · refine pi_no (k := 2) (b := 0) hR ?_ (by decide) ?_
      · unfold fL_moveTab fX8_moveTab
        rw [s_reqP (by rw [h1]; exact hS), h1, q, j_b, if_pos rfl, j_xl, s_reqL hk hk12, h1, qp]
        rfl
      · show fX9_moveTab σ 462 p t = _
        unfold fX9_moveTab fX9_moveTab_22 fX9_moveTab_23 fX9_moveTab_68
        rw [m_isP m.2, j_b, q, if_pos rfl, m_isL m.2.2.1 hk hk12, qp, rf2]
        rfl
    · obtain ⟨-, -, -, -, ⟨d, wn, hI⟩, hO, -⟩ := id hS
      have tb := hI.2.1
      have np : S_pl S 13 k ≠ -1 := by
        unfold plc at qp
        exact of_decide_eq_true qp
      obtain ⟨g, hg, eg, kg⟩ := (tb.gr hk12).resolve_left np
      have r13 : -2147483648 ≤ S_pl S 13 k ∧ S_pl S 13 k < 2147483648 := by omega
      have t13 : (oI (S_pl S 13 k)).toInt = S_pl S 13 k := j_oI r13.1 r13.2
      have tc12 := v_tc_rg (S_pl S) g
      have em : (oI (v_tc (S_pl S) g) - 1).toInt = (v_tc (S_pl S) g : Int) - 1 := by
        rw [j_sub (by rw [j_oI (by omega) (by omega), jz1]; omega) (by rw [j_oI (by omega) (by omega), jz1]; omega), j_oI (by omega) (by omega), jz1]
      have hpv : pv σ (1 + 5) = S_pl S := S_pv h1
      have pre8 : fX8_moveTab σ p t = (fX8_requireRange σ t 0 (oI (v_tc (S_pl S) g) - 1)).bind fun r9 => xcat r9 (fun e11 => some (.inr e11, σ)) fun w10 => (fX8_keepRecord σ).bind fun σ12 => (fX1_spotOf σ12 (1 + 5) p).bind fun r13 => (fX1_moveToSpot σ12 (1 + 5) p t).bind fun σ14 => some (.inl r13, σ14) := by
        unfold fX8_moveTab
        rw [s_reqP (by rw [h1]; exact hS), h1, q, j_b, if_pos rfl, j_xl, s_reqL hk hk12, h1, qp, j_b, if_pos rfl, j_xl, s_groupOf, j_b, s_tabCount, j_b, hpv, hk, ga_in hk12, t13, eg]
      have pre9 : ∀ s, MR s S l → fX9_moveTab s 462 p t = if decide (0 ≤ t.toInt ∧ t.toInt ≤ (v_tc (S_pl S) g : Int) - 1) = true then fX9_moveTab_68 462 s p t 0 else fX9_moveTab_68 462 s p t 3 := fun s ms => by
        unfold fX9_moveTab fX9_moveTab_23
        rw [m_isP ms.2, j_b, q, if_pos rfl, m_isL ms.2.2.1 hk hk12, qp, j_b, if_pos rfl, if_neg (show ¬ b2i true = 0 by decide), if_neg (show ¬ (1 : Int32) = 0 by decide), m_o3 hk hk12, j_b, m_tabMany, j_b, ms.2.2.1.gr hk12, t13, eg, ms.2.2.1.tc, m_within, j_b, jz0, em]
      by_cases ht : 0 ≤ t.toInt ∧ t.toInt ≤ (v_tc (S_pl S) g : Int) - 1
      · obtain ⟨σ1, a1, f1, c1⟩ := s_kr c
        have hpv1 := S_pv c1.1
        obtain ⟨σ2, a2, o2, v2⟩ := s_do c1.1 (s_moveToSpot (σ := σ1) (b := 1 + 5) p t)
        rw [hpv1, hk] at v2
        have rr := fun j (hj : j ≠ 14) => v_move_ne (V := S_pl S) (p := (k : Int)) (k := t.toInt) hj
        have hSI : SI (pfS S (S_fo S) (v_move (S_pl S) k t.toInt)) := hS.tb (fun j _ h14 _ => rr j h14) (tb.mov hk12 eg (by omega))
        have c2 := c1.mod0 (fun x hx => o2.2 x (by omega)) v2 hSI (fun pl => pl.vc (fun j _ _ _ h14 => rr j h14))
        refine pi_ok (v := oI (S_pl S 14 k)) tx m ?_ (fun x hx => by rw [o2.2 x (by omega)]; exact f1 x hx) c2 (fun s ms => ?_)
        · unfold fL_moveTab
          rw [pre8, s_reqR, j_b, jz0, em, decide_eq_true ht, if_pos rfl, j_xl, a1, j_b, s_spotOf, j_b, hpv1, hk, ga_in hk12, a2, j_b, j_b, j_xl, if_pos (by decide), j_nm]
          rfl
        · have ms0 := ms.s3 (k := 0)
          obtain ⟨s1, b1, g1, x1, m1⟩ := m_kr ms0
          have vm := m1.2.2.1
          have sp14 := vm.sp hk12 np
          have r14 : -2147483648 ≤ S_pl S 14 k ∧ S_pl S 14 k < 2147483648 := by rw [← sp14]; exact mv_rg _ _ _
          have t14 : (oI (S_pl S 14 k)).toInt = S_pl S 14 k := j_oI r14.1 r14.2
          obtain ⟨s2, b2, w2, u2⟩ := m_mt91 (σ := s1) hk hk12 (t := t) (o := oI (S_pl S 14 k)) (fun i hi z => by
            rw [vm.gr hi, vm.gr hk12, eg] at z
            rw [vm.sp hi (by omega)]
            have mm := (tb.nu hg kg).1 i hi (by simp [z])
            have := v_tc_rg (S_pl S) g
            unfold v_tc at this
            omega)
          rw [t14] at u2
          have Uo : ∀ j, j ≠ 10 → mv (s2.1 463) j = mv (s1.1 463) j := fun j hj => by
            rw [u2, mu_ne hj]
            funext i
            unfold mtU
            rw [if_neg (fun z => hj z.1)]
          refine ⟨s2, ?_, (G9.s3.tr g1).tr (F9.ou w2), m1.mod w2 (m1.2.pf (fun j hj => Uo j (by omega)) ?_ ?_)⟩
          · show fX9_moveTab s 462 p t = _
            rw [pre9 s ms, decide_eq_true ht, if_pos rfl]
            unfold fX9_moveTab_68
            rw [rf0, j_b]
            show (fX9_of (su s 462 3 0) 462 p 4).bind _ = _
            rw [m_o4 hk hk12, j_b, b1, j_b, ms0.2.2.1.sp hk12 np, b2]
          · refine vm.tb (fun j hj => Uo j (by omega)) (fun j _ h14 _ => rr j h14) (fun n hn kn => ?_) (fun n hn kn => by rw [Uo 5 (by omega)]) (fun i hi z => ?_) (fun i hi => ?_)
            · rw [Uo 5 (by omega), rr 12 (by omega)]
              exact vm.ac hn kn rfl
            · rw [u2, mu_at, move_rows tb hk12 eg t.toInt i hi]
              by_cases y : i = k
              · rw [if_pos y, if_pos y]
              · rw [if_neg y, if_neg y]
                unfold mtU
                rw [vm.gr hi, vm.gr hk12, eg, vm.sp hi z]
                by_cases w : S_pl S 13 i = g
                · rw [if_pos ⟨rfl, hi, w⟩, if_pos w]
                · rw [if_neg (fun u => w u.2.2), if_neg w]
            · rw [Uo 11 (by omega), rr 15 (by omega)]
              exact vm.hi hi
          · have : mo (mv (s2.1 463)) 20 = mo (mv (s1.1 463)) 20 := by
              unfold mo
              rw [Uo 20 (by omega), Uo 21 (by omega)]
            rw [this]
            exact m1.2.2.2.1
      · refine pi_no (k := 3) (b := 0) hR ?_ (by decide) ?_
        · unfold fL_moveTab
          rw [pre8, s_reqR, j_b, jz0, em, decide_eq_false ht]
          rfl
        · show fX9_moveTab σ 462 p t = _
          rw [pre9 σ m, decide_eq_false ht]
          unfold fX9_moveTab_68
          rw [rf3]
          rfl
end RAA

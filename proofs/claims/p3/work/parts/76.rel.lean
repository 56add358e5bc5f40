/-! THE RELATION: a pane is taken away in the reference as in the class -/
section ME
variable {σ : Sg} {V : VW} {d : Nat → Nat} {wn : Nat → Int}
def msh (U : VW) (p : Nat) (g : Int) : VW := fun j m => if j = 10 ∧ m < 12 ∧ U 9 m = g ∧ U 10 p < U 10 m then wr (U 10 m - 1) else U j m
theorem m_goesAway (h : VM (mv (σ.1 463)) V (fun _ => false)) (t : Tree V d wn (fun _ => false)) (tb : Tabs V (fun _ => false)) (lo : LO (odp V) 5 (flw V)) {a : Int32} {p g : Nat} (ha : a.toInt = p) (hp : p < 12) (hg : V 13 p = g) : ∃ σ', fX9_goesAway σ 462 a = some σ' ∧ Out σ σ' 463 463 ∧ VM (mv (σ'.1 463)) (v_withdraw V p) (fun _ => false) ∧ FR (mv (σ.1 463)) (mv (σ'.1 463)) := by
  obtain ⟨g1, g2⟩ := tb.g2 hp hg
  have eg : (oI (g : Int)).toInt = g := j_oI (by omega) (by omega)
  obtain ⟨r13, r14, r15, r12⟩ := out_rows tb hp hg
  have r : ∀ j, j ≠ 12 → j ≠ 13 → j ≠ 14 → j ≠ 15 → v_out V p j = V j := fun j => v_out_ne
  obtain ⟨σ2, a2, o2, v2⟩ := m_yields h tb ha hp hg
  unfold fX9_goesAway
  rw [m_o3 ha hp, j_b, h.gr hp, hg, a2, j_b]
  obtain ⟨U2, hU2⟩ : ∃ U2, U2 = mv (σ2.1 463) := ⟨_, rfl⟩
  have u2 : ∀ j, j ≠ 5 → U2 j = mv (σ.1 463) j := fun j hj => by
    rw [hU2, v2]
    split
    · rw [mu_ne hj]
    · rfl
  have u25 : ∀ n, n < 23 → V 8 n = 2 → U2 5 n = v_out V p 12 n := fun n hn q => by
    rw [r12 n hn, hU2, v2]
    by_cases z : V 12 g = p
    · rw [if_pos z, mu_at]
      by_cases y : n = g
      · rw [if_pos y, if_pos ⟨y, z⟩]
      · rw [if_neg y, if_neg (fun x => y x.1)]
        exact h.ac hn q rfl
    · rw [if_neg z, if_neg (fun x => z x.2)]
      exact h.ac hn q rfl
  have F2 : FR (mv (σ.1 463)) U2 := by
    rw [hU2, v2]
    split
    · exact FR.mu (by omega)
    · exact FR.rf
  refine lp (F := fun n (s : Sg × Int32) => fX9_goesAway_14 462 n s.1 a (oI (g : Int)) s.2) (Q := fun r => ∃ σ', r = some σ' ∧ Out σ σ' 463 463 ∧ VM (mv (σ'.1 463)) (v_withdraw V p) (fun _ => false) ∧ FR (mv (σ.1 463)) (mv (σ'.1 463))) (fun i s => s.2 = nI i ∧ Out σ s.1 463 463 ∧ mv (s.1.1 463) = fun j m => if m < i then msh U2 p g j m else U2 j m) 12 ?_ ?_ 12 0 FU (σ2, 0) rfl (by decide) ⟨rfl, o2, by
    rw [← hU2]
    funext j m
    rw [if_neg (by omega)]⟩
  · rintro n i ⟨s, l⟩ hi ⟨rfl, ho, hv⟩
    simp only at ho hv
    have e : (nI i).toInt = i := j_nI (by omega)
    have rd : ∀ j, mv (s.1 463) j i = U2 j i := fun j => by rw [hv]; exact if_neg (by omega)
    have rp : mv (s.1 463) 10 p = U2 10 p := by
      rw [hv]
      dsimp only
      split
      · unfold msh
        rw [if_neg (fun z => by omega)]
      · rfl
    have ext : ∀ W : VW, W 10 i = msh U2 p g 10 i → (∀ j m, ¬ (j = 10 ∧ m = i) → W j m = mv (s.1 463) j m) → W = fun j m => if m < i + 1 then msh U2 p g j m else U2 j m := by
      intro W h1 h2
      funext j m
      by_cases q : j = 10 ∧ m = i
      · obtain ⟨rfl, rfl⟩ := q
        rw [h1, if_pos (by omega)]
      · rw [h2 j m q, hv]
        dsimp only
        by_cases q2 : m < i
        · rw [if_pos q2, if_pos (by omega)]
        · rw [if_neg q2]
          by_cases q3 : m = i
          · subst q3
            rw [if_pos (by omega), msh, if_neg (fun z => q ⟨z.1, rfl⟩)]
          · rw [if_neg (by omega)]
    show ∃ s' : Sg × Int32, _ ∧ fX9_goesAway_14 462 (n + 1) s a (oI (g : Int)) (nI i) = _
    rw [fX9_goesAway_14, if_neg (n_ge 12 (m := 12) rfl hi (by decide)), m_o3 e hi, j_b, rd 9]
    unfold fX9_goesAway_59
    have t9 : (oI (U2 9 i)).toInt = U2 9 i := by rw [hU2]; exact t_mv
    have t10 : (oI (U2 10 i)).toInt = U2 10 i := by rw [hU2]; exact t_mv
    have t10p : (oI (U2 10 p)).toInt = U2 10 p := by rw [hU2]; exact t_mv
    by_cases q : U2 9 i = g
    · rw [if_pos (by rw [j_eq, t9, eg]; exact q), m_o4 e hi, j_b, m_o4 ha hp, j_b, rd 10, rp]
      by_cases q2 : U2 10 p < U2 10 i
      · obtain ⟨σ3, a3, o3, v3⟩ := m_p4 (σ := s) e hi (oI (U2 10 i) - 1)
        rw [if_neg (by rw [j_le, t10, t10p]; omega), j_b, a3, j_b]
        refine ⟨(σ3, nI (i + 1)), ⟨rfl, ho.tr o3, ext _ ?_ ?_⟩, by rw [j_s]⟩
        · show mv (σ3.1 463) 10 i = _
          rw [v3, mu_at, if_pos rfl, wr_sub, t10, jz1, msh, if_pos ⟨rfl, hi, q, q2⟩]
        · intro j m hjm
          show mv (σ3.1 463) j m = _
          rw [v3, mu_def, if_neg hjm]
      · rw [if_pos (by rw [j_le, t10, t10p]; omega)]
        refine ⟨(s, nI (i + 1)), ⟨rfl, ho, ext _ ?_ (fun _ _ _ => rfl)⟩, by rw [j_s]⟩
        rw [rd 10, msh, if_neg (fun z => q2 z.2.2.2)]
    · rw [if_neg (by rw [j_eq, t9, eg]; exact q)]
      refine ⟨(s, nI (i + 1)), ⟨rfl, ho, ext _ ?_ (fun _ _ _ => rfl)⟩, by rw [j_s]⟩
      rw [rd 10, msh, if_neg (fun z => q z.2.2.1)]
  · rintro n ⟨s, l⟩ ⟨rfl, ho, hv⟩
    simp only at ho hv
    have hv : mv (s.1 463) = msh U2 p g := by
      rw [hv]
      funext j m
      by_cases q : m < 12
      · rw [if_pos q]
      · rw [if_neg q, msh, if_neg (fun z => q z.2.1)]
    obtain ⟨σ3, a3, o3, v3⟩ := m_p3 (σ := s) ha hp (-1)
    obtain ⟨σ4, a4, o4, v4⟩ := m_p4 (σ := σ3) ha hp 0
    obtain ⟨σ5, a5, o5, v5⟩ := m_p5 (σ := σ4) ha hp 0
    show ∃ σ', fX9_goesAway_14 462 (n + 1) s a (oI (g : Int)) (nI 12) = some σ' ∧ _
    rw [fX9_goesAway_14, if_pos (n_le 12 (m := 12) rfl (by decide)), a3, j_b, a4, j_b, a5, j_b, m_tabMany, j_b, eg]
    rw [v4, v3, hv] at v5
    have O : Out σ σ5 463 463 := ((ho.tr o3).tr o4).tr o5
    have w : ∀ j, j ≠ 9 → j ≠ 10 → j ≠ 11 → mv (σ5.1 463) j = U2 j := fun j h9 h10 h11 => by
      rw [v5, mu_ne h11, mu_ne h10, mu_ne h9]
      funext m
      unfold msh
      rw [if_neg (fun z => h10 z.1)]
    have w9 : ∀ i, mv (σ5.1 463) 9 i = if i = p then -1 else U2 9 i := fun i => by
      rw [v5, mu_ne (by decide), mu_ne (by decide), mu_at]
      by_cases z : i = p
      · rw [if_pos z, if_pos z]
        rfl
      · rw [if_neg z, if_neg z, msh, if_neg (fun y => absurd y.1 (by decide))]
    have w10 : ∀ i, i < 12 → i ≠ p → mv (σ5.1 463) 10 i = if U2 9 i = g ∧ U2 10 p < U2 10 i then wr (U2 10 i - 1) else U2 10 i := fun i hi z => by
      rw [v5, mu_ne (by decide), mu_at, if_neg z, mu_ne (by decide), msh]
      by_cases y : U2 9 i = g ∧ U2 10 p < U2 10 i
      · rw [if_pos y, if_pos ⟨rfl, hi, y⟩]
      · rw [if_neg y, if_neg (fun x => y x.2.2)]
    have w11 : ∀ i, mv (σ5.1 463) 11 i = if i = p then 0 else U2 11 i := fun i => by
      rw [v5, mu_at]
      by_cases z : i = p
      · rw [if_pos z, if_pos z]
        rfl
      · rw [if_neg z, if_neg z, mu_ne (by decide), mu_ne (by decide), msh, if_neg (fun y => absurd y.1 (by decide))]
    have M5 : VM (mv (σ5.1 463)) (v_out V p) (fun _ => false) := by
      have k8 := r 8 (by decide) (by decide) (by decide) (by decide)
      have k9 := r 9 (by decide) (by decide) (by decide) (by decide)
      have k5 := r 5 (by decide) (by decide) (by decide) (by decide)
      refine ⟨fun n hn => ?_, ?_, fun n hn q => ?_, fun n hn q => ?_, fun n hn q _ => ?_, fun i hi => ?_, fun v hv => ?_, ?_, ?_, fun n hn q => by
        rw [k8] at q
        rw [w 5 (by decide) (by decide) (by decide), hU2, v2]
        by_cases z : V 12 g = p
        · rw [if_pos z, mu_at, if_neg (fun y => by rw [y] at q; omega)]
          exact h.a5 hn q
        · rw [if_neg z]
          exact h.a5 hn q⟩
      · rw [k8, w 0 (by decide) (by decide) (by decide), w 2 (by decide) (by decide) (by decide), u2 0 (by decide), u2 2 (by decide)]
        exact h.1 n hn
      · rw [w 0 (by decide) (by decide) (by decide), u2 0 (by decide)]
        exact h.l
      · rw [k8] at q
        rw [w 1 (by decide) (by decide) (by decide), u2 1 (by decide), k9]
        exact h.pa hn q
      · rw [k9] at q
        rw [w 3 (by decide) (by decide) (by decide), w 4 (by decide) (by decide) (by decide), u2 3 (by decide), u2 4 (by decide), r 10 (by decide) (by decide) (by decide) (by decide), r 11 (by decide) (by decide) (by decide) (by decide)]
        exact ⟨h.we hn q, h.pl hn q⟩
      · rw [k8] at q
        rw [w 5 (by decide) (by decide) (by decide)]
        exact u25 n hn q
      · refine ⟨?_, fun q => ?_, ?_⟩
        · rw [w9 i, r13 i hi, u2 9 (by decide), h.gr hi]
        · rw [r13 i hi] at q
          have z : i ≠ p := fun z => by rw [if_pos z] at q; exact q rfl
          rw [if_neg z] at q
          rw [w10 i hi z, r14 i hi, if_neg z, u2 9 (by decide), u2 10 (by decide), h.gr hi, h.sp hi q, h.sp hp (by omega)]
          by_cases y : V 13 i = g ∧ V 14 p < V 14 i
          · have := tb.sp hi
            rw [if_pos y, if_pos y, wr_id (by omega) (by omega)]
          · rw [if_neg y, if_neg y]
        · rw [w11 i, r15 i hi, u2 11 (by decide), h.hi hi]
      · rw [w 12 (by decide) (by decide) (by decide), w 13 (by decide) (by decide) (by decide), w 14 (by decide) (by decide) (by decide), w 15 (by decide) (by decide) (by decide), w 16 (by decide) (by decide) (by decide), w 17 (by decide) (by decide) (by decide), u2 12 (by decide), u2 13 (by decide), u2 14 (by decide), u2 15 (by decide), u2 16 (by decide), u2 17 (by decide), k5, r 1 (by decide) (by decide) (by decide) (by decide), r 2 (by decide) (by decide) (by decide) (by decide), r 3 (by decide) (by decide) (by decide) (by decide), r 4 (by decide) (by decide) (by decide) (by decide)]
        exact ⟨h.ex hv, h.ro hv, h.geo hv⟩
      · rw [w 18 (by decide) (by decide) (by decide), u2 18 (by decide), r 6 (by decide) (by decide) (by decide) (by decide)]
        exact h.fc
      · rw [w 19 (by decide) (by decide) (by decide), u2 19 (by decide), r 6 (by decide) (by decide) (by decide) (by decide), r 7 (by decide) (by decide) (by decide) (by decide)]
        exact fun k hk => h.fi hk
    have F5 : FR (mv (σ.1 463)) (mv (σ5.1 463)) := F2.tr (fun j hj => w j (by omega) (by omega) (by omega))
    have T : Tree (v_out V p) d wn (fun _ => false) := t.cg (fun n _ => by rw [r 8 (by decide) (by decide) (by decide) (by decide)]) (fun n _ => by rw [r 9 (by decide) (by decide) (by decide) (by decide)]) (fun n _ => by rw [r 10 (by decide) (by decide) (by decide) (by decide)]) (fun n hn q => by rw [r 11 (by decide) (by decide) (by decide) (by decide)]; exact t.we hn q) (fun n _ => by rw [r 5 (by decide) (by decide) (by decide) (by decide)])
    have L : LO (odp (v_out V p)) 5 (flw (v_out V p)) := by
      rw [odp_out]
      exact lo.cg (fun i _ => by unfold flw; rw [r 5 (by decide) (by decide) (by decide) (by decide)])
    have W : v_withdraw V p = if v_tc (v_out V p) g = 0 then v_remg (v_out V p) g else v_out V p := by
      unfold v_withdraw
      rw [ga_in hp, hg, if_neg (by omega)]
    rw [M5.tc, W]
    by_cases z : v_tc (v_out V p) g = 0
    · obtain ⟨σ6, a6, o6, M6, F6⟩ := m_remg M5 T L g1 (by rw [r 8 (by decide) (by decide) (by decide) (by decide)]; exact g2)
      rw [if_pos (by rw [j_le, t_tc, jz0]; omega), if_pos z]
      exact ⟨σ6, a6, O.tr o6, M6, F5.tr F6⟩
    · rw [if_neg (by rw [j_le, t_tc, jz0]; omega), if_neg z]
      exact ⟨σ5, rfl, O, M5, F5⟩
theorem m_takes (h : VM (mv (σ.1 463)) V (fun _ => false)) (t : Tree V d wn (fun _ => false)) (tb : Tabs V (fun _ => false)) (lo : LO (odp V) 5 (flw V)) {a : Int32} {p : Nat} (ha : a.toInt = p) (hp : p < 12) : ∃ σ', fX9_takes σ 462 a = some σ' ∧ Out σ σ' 463 463 ∧ VM (mv (σ'.1 463)) (v_withdraw V p) (fun _ => false) ∧ FR (mv (σ.1 463)) (mv (σ'.1 463)) := by
  unfold fX9_takes
  rw [m_isPlaced ha hp, j_b, h.gr hp]
  rcases tb.gr hp with q | ⟨g, g1, g2, g3⟩
  · rw [q, if_neg (by decide)]
    refine ⟨σ, rfl, Out.rf, ?_, FR.rf⟩
    unfold v_withdraw
    rw [ga_in hp, if_pos q]
    exact h
  · obtain ⟨σ', a1, o1, m1, f1⟩ := m_goesAway h t tb lo ha hp g2
    rw [if_pos (by rw [decide_eq_true_eq]; omega), a1, j_b]
    exact ⟨σ', rfl, o1, m1, f1⟩
end ME

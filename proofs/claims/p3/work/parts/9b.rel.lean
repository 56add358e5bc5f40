/-! THE RELATION: the reference's plan (2): least sizes -/
section MB
variable {σ : Sg} {V : VW} {d : Nat → Nat} {wn : Nat → Int} {X Y : Nat → Bool} {mw mh : Nat → Int}
/-- what a least size leaves alone -/
def Fq (σ σ' : Sg) (n : Nat) : Prop := Out σ σ' 467 468 ∧ (∀ i, i ≠ n → σ'.1 467 i = σ.1 467 i) ∧ ∀ i, i ≠ 2 * n → i ≠ 2 * n + 1 → σ'.1 468 i = σ.1 468 i
theorem Fq.row {σ' : Sg} {n : Nat} (h : Fq σ σ' n) {j i : Nat} (hi : i ≠ n) : mq σ' j i = mq σ j i := by
  unfold mq
  rw [h.2.1 i hi, h.2.2 (2 * i) (by omega) (by omega), h.2.2 (2 * i + 1) (by omega) (by omega), h.1.2 469 (by omega)]
theorem m_ll282 {n : Nat} (hn : n < 24) (a b : Int32) (s : Bool) : ∃ σ', fX9_laysLeast_282 462 σ (nI n) a b (if s then 1 else 0) = some σ' ∧ Fq σ σ' n ∧ mq σ' 1 n = (if s then 1 else 0) ∧ mq σ' 2 n = a.toInt ∧ mq σ' 3 n = b.toInt := by
  have e2 : (2 : Int32) * nI n = nI (2 * n) := (Int32.ofNat_mul 2 n).symm
  have vb : vp_nar .boolean (if s then (1 : Int32) else 0) = if s then 1 else 0 := by
    cases s
    · decide
    · decide
  unfold fX9_laysLeast_282
  rw [vb, if_pos (j_ckn hn (by decide)), j_nm, e2, if_pos (j_ckn (by omega) (by decide)), j_nm, j_s, if_pos (j_ckn (by omega) (by decide)), j_nm, j_cl _ (by omega), j_cl _ (by omega), j_cl _ (by omega), show (462 + 5 : Nat) = 467 from rfl, show (462 + 6 : Nat) = 468 from rfl]
  refine ⟨_, rfl, ⟨((su_out.mo (by omega) (by omega)).tr (su_out.mo (by omega) (by omega))).tr (su_out.mo (by omega) (by omega)), fun i hi => ?_, fun i h1 h2 => ?_⟩, ?_, ?_, ?_⟩
  · rw [su_at, if_neg (by omega), su_at, if_neg (by omega), su_at, if_neg (fun z => hi z.2)]
  · rw [su_at, if_neg (fun z => h2 z.2), su_at, if_neg (fun z => h1 z.2), su_at, if_neg (by omega)]
  · rw [mq1 hn, su_at, if_neg (by omega), su_at, if_neg (by omega), su_at, if_pos ⟨rfl, rfl⟩]
    cases s <;> rfl
  · rw [mq2 hn, su_at, if_neg (by omega), su_at, if_pos ⟨rfl, rfl⟩]
  · rw [mq3 hn, su_at, if_pos ⟨rfl, rfl⟩]
theorem gx_nil {c : Nat → Bool} {f : Nat → Int} {n : Nat} (h : cnt c n = 0) : gx c f n = 0 := by
  obtain ⟨-, -, r⟩ := gx_le c f n
  rcases r with r | ⟨x, hx, cx, -⟩
  · exact r
  · rw [cnt_zero.mp h x hx] at cx
    cases cx
theorem cnt_nx (c : Nat → Bool) (n : Nat) : cnt c (n + 1) = cnt c n + (if c n then 1 else 0) := rfl
/-- a group's least size -/
theorem m_leastG (h : VM (mv (σ.1 463)) V X) (hm : ∀ p, p < 12 → V 13 p ≠ -1 → mv (σ.1 463) 7 p = mw p ∧ mv (σ.1 463) 8 p = mh p) (hh : ∀ p, p < 12 → 0 ≤ mh p ∧ mh p ≤ 40) {n : Nat} (hn : n < 23) (k : V 8 n = 2) : ∃ σ', fX9_laysLeast σ 462 (nI n) = some σ' ∧ Fq σ σ' n ∧ LG V mw mh (mq σ') n := by
  have en : (nI n).toInt = n := j_nI (by omega)
  have u0 : oI (mv (σ.1 463) 0 n) = 2 := by rw [h.k2 hn k]; rfl
  unfold fX9_laysLeast
  rw [m_i0 en (by omega), j_b, if_pos u0]
  refine lp (F := fun m (s : Int32 × Int32 × Int32 × Int32) => fX9_laysLeast_20 462 m σ (nI n) s.1 s.2.1 s.2.2.1 s.2.2.2) (Q := fun o => ∃ σ', o = some σ' ∧ Fq σ σ' n ∧ LG V mw mh (mq σ') n) (fun i s => s.1.toInt = gx (vis V n) mw i ∧ s.2.1.toInt = (if 1 ≤ cnt (vis V n) i then gx (vis V n) mh i + 1 else 0) ∧ s.2.2.1 = (if decide (1 ≤ cnt (vis V n) i) then 1 else 0) ∧ s.2.2.2 = nI i) 12 ?_ ?_ 12 0 FU (0, 0, 0, 0) rfl (by decide) ⟨rfl, rfl, rfl, rfl⟩
  · rintro m i ⟨a, b, f, l⟩ hi ⟨ha, hb, hf, rfl⟩
    simp only at ha hb hf
    have ei : (nI i).toInt = i := j_nI (by omega)
    have ge : (oI (mv (σ.1 463) 9 i) = nI n) ↔ V 13 i = n := by rw [j_eq, t_mv, h.gr hi, j_nI (by omega)]
    have hid : (oI (mv (σ.1 463) 11 i) = 0) ↔ V 15 i = 0 := by rw [j_eq, t_mv, h.hi hi, jz0]
    have skip : vis V n i = false → ∃ s' : Int32 × Int32 × Int32 × Int32, (s'.1.toInt = gx (vis V n) mw (i + 1) ∧ s'.2.1.toInt = (if 1 ≤ cnt (vis V n) (i + 1) then gx (vis V n) mh (i + 1) + 1 else 0) ∧ s'.2.2.1 = (if decide (1 ≤ cnt (vis V n) (i + 1)) then 1 else 0) ∧ s'.2.2.2 = nI (i + 1)) ∧ fX9_laysLeast_20 462 m σ (nI n) a b f (nI (i + 1)) = fX9_laysLeast_20 462 m σ (nI n) s'.1 s'.2.1 s'.2.2.1 s'.2.2.2 := fun v0 => by
      have c1 : cnt (vis V n) (i + 1) = cnt (vis V n) i := by rw [cnt_nx, v0]; rfl
      have g1 : ∀ f, gx (vis V n) f (i + 1) = gx (vis V n) f i := fun f => by
        show (if vis V n i then _ else _) = _
        rw [v0]
        rfl
      exact ⟨(a, b, f, nI (i + 1)), ⟨by rw [g1]; exact ha, by rw [c1, g1]; exact hb, by rw [c1]; exact hf, rfl⟩, rfl⟩
    show ∃ s' : Int32 × Int32 × Int32 × Int32, _ ∧ fX9_laysLeast_20 462 (m + 1) σ (nI n) a b f (nI i) = _
    have nle : ¬ (12 : Int32) ≤ nI i := n_ge 12 (m := 12) rfl hi (by decide)
    rw [fX9_laysLeast_20, if_neg nle, m_o3 ei hi, j_b]
    by_cases q : V 13 i = n
    · have q' := ge.mpr q
      rw [if_pos q', m_o5 ei hi, j_b]
      by_cases z : V 15 i = 0
      · have z' := hid.mpr z
        have v1 : vis V n i = true := by
          unfold vis
          rw [decide_eq_true q, decide_eq_true z]
          rfl
        obtain ⟨e7, e8⟩ := hm i hi (by omega)
        have c1 : cnt (vis V n) (i + 1) = cnt (vis V n) i + 1 := by rw [cnt_nx, v1]; rfl
        have g1 : ∀ f, gx (vis V n) f (i + 1) = if gx (vis V n) f i < f i then f i else gx (vis V n) f i := fun f => by
          show (if vis V n i then _ else _) = _
          rw [v1]
          rfl
        have hb8 := hh i hi
        have m8 : (oI (mv (σ.1 463) 8 i) + 1).toInt = mh i + 1 := by
          rw [j_add (by rw [t_mv, e8, jz1]; omega) (by rw [t_mv, e8, jz1]; omega), t_mv, e8, jz1]
        have g0 := (gx_le (vis V n) mh i).1
        -- the height
        have ht : ∀ a' : Int32, a'.toInt = gx (vis V n) mw (i + 1) → ∃ s' : Int32 × Int32 × Int32 × Int32, (s'.1.toInt = gx (vis V n) mw (i + 1) ∧ s'.2.1.toInt = (if 1 ≤ cnt (vis V n) (i + 1) then gx (vis V n) mh (i + 1) + 1 else 0) ∧ s'.2.2.1 = (if decide (1 ≤ cnt (vis V n) (i + 1)) then 1 else 0) ∧ s'.2.2.2 = nI (i + 1)) ∧ fX9_laysLeast_73 462 (fX9_laysLeast_20 462 m) σ (nI n) b 1 (nI i) a' = fX9_laysLeast_20 462 m σ (nI n) s'.1 s'.2.1 s'.2.2.1 s'.2.2.2 := fun a' ha' => by
          unfold fX9_laysLeast_73
          rw [m_o2 ei hi, j_b]
          have c2 : decide (1 ≤ cnt (vis V n) (i + 1)) = true := decide_eq_true (by omega)
          have c3 : 1 ≤ cnt (vis V n) (i + 1) := by omega
          by_cases y : (oI (mv (σ.1 463) 8 i) + 1) ≤ b
          · rw [if_pos y]
            rw [j_le, m8, hb] at y
            unfold fX9_laysLeast_100 fX9_laysLeast_101
            rw [j_s]
            refine ⟨(a', b, 1, nI (i + 1)), ⟨ha', ?_, by rw [c2]; rfl, rfl⟩, rfl⟩
            show b.toInt = _
            rw [if_pos c3, g1, hb]
            by_cases w : 1 ≤ cnt (vis V n) i
            · rw [if_pos w] at y ⊢
              rw [if_neg (by omega)]
            · rw [if_neg w] at y
              omega
          · rw [if_neg y, j_b]
            rw [j_le, m8, hb] at y
            unfold fX9_laysLeast_100 fX9_laysLeast_101
            rw [j_s]
            refine ⟨(a', _, 1, nI (i + 1)), ⟨ha', ?_, by rw [c2]; rfl, rfl⟩, rfl⟩
            show (oI (mv (σ.1 463) 8 i) + 1).toInt = _
            rw [m8, if_pos c3, g1]
            by_cases w : 1 ≤ cnt (vis V n) i
            · rw [if_pos w] at y
              rw [if_pos (by omega)]
            · have g00 := gx_nil (f := mh) (show cnt (vis V n) i = 0 by omega)
              rw [g00]
              split <;> omega
        rw [if_pos z', m_o1 ei hi, j_b]
        by_cases y : oI (mv (σ.1 463) 7 i) ≤ a
        · rw [if_pos y]
          rw [j_le, t_mv, e7, ha] at y
          exact ht a (by rw [g1, if_neg (by omega)]; exact ha)
        · rw [if_neg y, j_b]
          rw [j_le, t_mv, e7, ha] at y
          exact ht _ (by rw [t_mv, e7, g1, if_pos (by omega)])
      · have z' : ¬ oI (mv (σ.1 463) 11 i) = 0 := fun y => z (hid.mp y)
        rw [if_neg z']
        unfold fX9_laysLeast_101
        rw [j_s]
        exact skip (by unfold vis; rw [decide_eq_false z, Bool.and_false])
    · have q' : ¬ oI (mv (σ.1 463) 9 i) = nI n := fun y => q (ge.mp y)
      rw [if_neg q']
      unfold fX9_laysLeast_101
      rw [j_s]
      exact skip (by unfold vis; rw [decide_eq_false q, Bool.false_and])
  · rintro m ⟨a, b, f, l⟩ ⟨ha, hb, hf, rfl⟩
    simp only at ha hb hf
    show ∃ σ', fX9_laysLeast_20 462 (m + 1) σ (nI n) a b f (nI 12) = _ ∧ _
    rw [fX9_laysLeast_20, if_pos (n_le 12 (m := 12) rfl (by decide)), hf]
    obtain ⟨σ', e, fq, p1, p2, p3⟩ := m_ll282 (σ := σ) (n := n) (by omega) a b (decide (1 ≤ cnt (vis V n) 12))
    refine ⟨σ', e, fq, ?_⟩
    unfold LG
    rw [p1, p2, p3, ha, hb]
    by_cases w : 1 ≤ cnt (vis V n) 12
    · rw [decide_eq_true w, if_pos rfl, if_pos w]
      exact ⟨Or.inr rfl, ⟨fun _ => cnt_ex w, fun _ => rfl⟩, fun _ => ⟨rfl, rfl⟩⟩
    · rw [decide_eq_false w, if_neg (by decide), if_neg w]
      refine ⟨Or.inl rfl, ⟨fun z => absurd z (by decide), fun ⟨p, hp, vp⟩ => absurd (cnt_pos hp vp) w⟩, fun z => absurd z (by decide)⟩
end MB

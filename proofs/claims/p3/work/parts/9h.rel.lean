/-! THE RELATION: the reference's plan (8): closed room and open weights -/
section MH9
variable {σ : Sg} {V : VW} {d : Nat → Nat} {wn : Nat → Int} {X Y : Nat → Bool} {pl : List Nat} {m w : Nat → Int}
/-- the flags tell who is open -/
def MO (σ : Sg) (pl : List Nat) (op : Nat → Bool) : Prop := (∀ c, op c = true → c ∈ pl) ∧ ∀ c, c < 24 → σ.1 471 c = if op c then 1 else 0
theorem MO.f {op : Nat → Bool} (h : MO σ pl op) {c : Nat} (hc : c < 24) : σ.1 471 c = 0 ↔ op c = false := by
  rw [h.2 c hc]
  cases op c
  · exact ⟨fun _ => rfl, fun _ => rfl⟩
  · exact ⟨fun z => absurd z (by decide), fun z => by cases z⟩
/-- sums over nodes where only members count -/
theorem sm_pl (nd : pl.Nodup) (mem : ∀ c ∈ pl, c < 23) (g : Nat → Int) (hg : ∀ c, ¬ c ∈ pl → g c = 0) : sm g 24 = Sm g pl := by
  rw [list_sm g (N := 24) nd (fun c hc => by have := mem c hc; omega)]
  refine sm_congr (fun i _ => ?_)
  by_cases q : i ∈ pl
  · rw [if_pos q]
  · rw [if_neg q, hg i q]
/-- the room of the closed ones -/
theorem m_closed (h : VM (mv (σ.1 463)) V X) (t : Tree V d wn Y) {n D : Nat} (hn : n < 23) (k1 : V 8 n ≤ 1) (hD : D ≤ 1) (hc : ∀ i, i < 23 → V 9 i = n → mq σ 1 i = 0 ∨ mq σ 1 i = 1) (h12 : σ.1 462 12 = nI n) {op : Nat → Bool} (ho : MO σ (pls V (mq σ) n) op) (hm : ∀ c ∈ pls V (mq σ) n, m c = mq σ (2 + D) c) : fX9_closed σ 462 (nI D) = some (oI (xc (pls V (mq σ) n) m op)) := by
  have en : (nI n).toInt = n := j_nI (by omega)
  have nd := t.pls_nd (P := mq σ) hn k1
  have memc : ∀ c, c ∈ pls V (mq σ) n ↔ c < 23 ∧ V 9 c = n ∧ mq σ 1 c = 1 := fun c => t.pls_mem hn k1
  have tot : sm (fun c => if c ∈ pls V (mq σ) n then (if op c then 0 else m c) else 0) 24 = xc (pls V (mq σ) n) m op := by
    rw [sm_pl nd (fun c hc => ((memc c).mp hc).1) _ (fun c hc => if_neg hc)]
    exact Sm_congr (fun c hc => if_pos hc)
  rw [← tot]
  unfold fX9_closed
  refine lp (F := fun f (s : Int32 × Int32) => fX9_closed_4 σ 462 f (nI D) s.1 s.2) (Q := fun o => o = some (oI (sm (fun c => if c ∈ pls V (mq σ) n then (if op c then 0 else m c) else 0) 24))) (fun i s => s.1 = oI (sm (fun c => if c ∈ pls V (mq σ) n then (if op c then 0 else m c) else 0) i) ∧ s.2 = nI i) 24 ?_ ?_ 24 0 FU (0, 0) rfl (by decide) ⟨rfl, rfl⟩
  · rintro f i ⟨a, l⟩ hi ⟨ha, rfl⟩
    simp only at ha
    have ei : (nI i).toInt = i := j_nI (by omega)
    have nle : ¬ (24 : Int32) ≤ nI i := n_ge 24 (m := 24) rfl hi (by decide)
    have cki : ck (nI i) 24 := j_ckn hi (by decide)
    have ecl : (nI i).toNatClampNeg = i := j_cl _ (by omega)
    have e2 : (2 : Int32) * nI i + nI D = nI (2 * i + D) := by
      rw [show (2 : Int32) * nI i = nI (2 * i) from (Int32.ofNat_mul 2 i).symm, j_a]
    have ec2 : (nI (2 * i + D)).toNatClampNeg = 2 * i + D := j_cl _ (by omega)
    have nx : sm (fun c => if c ∈ pls V (mq σ) n then (if op c then 0 else m c) else 0) (i + 1) = sm (fun c => if c ∈ pls V (mq σ) n then (if op c then 0 else m c) else 0) i + (if i ∈ pls V (mq σ) n then (if op i then 0 else m i) else 0) := rfl
    have z0 : ∀ x : Int32, x + 0 = x := fun x => by simp
    have skip : (if i ∈ pls V (mq σ) n then (if op i then 0 else m i) else 0) = 0 → ∃ s' : Int32 × Int32, (s'.1 = oI (sm (fun c => if c ∈ pls V (mq σ) n then (if op c then 0 else m c) else 0) (i + 1)) ∧ s'.2 = nI (i + 1)) ∧ fX9_closed_54 σ 462 (fX9_closed_4 σ 462 f) (nI D) (nI i) a = fX9_closed_4 σ 462 f (nI D) s'.1 s'.2 := fun v0 => by
      unfold fX9_closed_54 fX9_closed_55
      rw [j_nm, j_s, z0, nx, v0, Int.add_zero]
      exact ⟨(a, nI (i + 1)), ⟨ha, rfl⟩, rfl⟩
    show ∃ s' : Int32 × Int32, _ ∧ fX9_closed_4 σ 462 (f + 1) (nI D) a (nI i) = _
    rw [fX9_closed_4, if_neg nle, h12, m_isChild ei hi, j_b, en]
    by_cases i23 : i < 23
    · rw [h.ch t i23 (by omega)]
      by_cases q : V 9 i = n
      · have q' : decide (V 9 i = (n : Int)) = true := decide_eq_true q
        have s7 : σ.1 (462 + 5) (nI i).toNatClampNeg = 0 ↔ mq σ 1 i = 0 := by
          rw [ecl, show (462 + 5 : Nat) = 467 from rfl, mq1 (by omega), j_eq, jz0]
        rw [if_pos q', if_pos cki]
        rcases hc i i23 q with z | z
        · rw [if_pos (s7.mpr z)]
          exact skip (if_neg (fun y => by have := ((memc i).mp y).2.2; omega))
        · have n7 : ¬ σ.1 (462 + 5) (nI i).toNatClampNeg = 0 := fun y => by rw [s7] at y; omega
          have iin : i ∈ pls V (mq σ) n := (memc i).mpr ⟨i23, q, z⟩
          have s9 : σ.1 (462 + 9) (nI i).toNatClampNeg = 0 ↔ op i = false := by
            rw [ecl]
            exact ho.f (by omega)
          rw [if_neg n7, if_pos cki]
          cases oi : op i
          · rw [if_pos (s9.mpr oi), e2, if_pos (j_ckn (by omega) (by decide))]
            unfold fX9_closed_55
            rw [j_nm, j_s, ec2, nx, if_pos iin, oi]
            refine ⟨(_, nI (i + 1)), ⟨?_, rfl⟩, rfl⟩
            show a + σ.1 (462 + 6) (2 * i + D) = oI (_ + m i)
            rw [ha, hm i iin, mqL (by omega) hD, ← j_oa, j_oIt]
          · have n9 : ¬ σ.1 (462 + 9) (nI i).toNatClampNeg = 0 := fun y => by
              rw [s9, oi] at y
              cases y
            rw [if_neg n9]
            exact skip (by rw [if_pos iin, oi]; rfl)
      · have q' : ¬ decide (V 9 i = (n : Int)) = true := fun y => q (of_decide_eq_true y)
        rw [if_neg q']
        exact skip (if_neg (fun y => q ((memc i).mp y).2.1))
    · have i3 : i = 23 := by omega
      subst i3
      have q' : ¬ (decide (mv (σ.1 463) 0 23 ≠ 0) && decide (mv (σ.1 463) 1 23 = (n : Int))) = true := fun y => by
        rw [h.l] at y
        simp at y
      rw [if_neg q']
      exact skip (if_neg (fun y => i23 ((memc 23).mp y).1))
  · rintro f ⟨a, l⟩ ⟨ha, rfl⟩
    simp only at ha
    show fX9_closed_4 σ 462 (f + 1) (nI D) a (nI 24) = _
    rw [fX9_closed_4, if_pos (n_le 24 (m := 24) rfl (by decide)), ha]
/-- the weight of the open ones, and the room that they have -/
theorem m_tight5 (h : VM (mv (σ.1 463)) V X) (t : Tree V d wn Y) {n D : Nat} (hn : n < 23) (k1 : V 8 n ≤ 1) (hD : D ≤ 1) (hc : ∀ i, i < 23 → V 9 i = n → mq σ 1 i = 0 ∨ mq σ 1 i = 1) (h12 : σ.1 462 12 = nI n) {op : Nat → Bool} (ho : MO σ (pls V (mq σ) n) op) (hm : ∀ c ∈ pls V (mq σ) n, m c = mq σ (2 + D) c) (hw : ∀ c ∈ pls V (mq σ) n, w c = V 11 c) (room : Int32) : ∃ W : Int64, fX9_tightens σ 462 room (nI D) = fX9_tightens_59 462 FU σ (nI D) W ((room - oI (xc (pls V (mq σ) n) m op)).toInt64) 0 0 ∧ W.toInt = xw (pls V (mq σ) n) w op := by
  have nd := t.pls_nd (P := mq σ) hn k1
  have memc : ∀ c, c ∈ pls V (mq σ) n ↔ c < 23 ∧ V 9 c = n ∧ mq σ 1 c = 1 := fun c => t.pls_mem hn k1
  have w1 : ∀ c ∈ pls V (mq σ) n, 1 ≤ w c ∧ w c ≤ 1000000 := fun c hc => by
    rw [hw c hc]
    exact t.we ((memc c).mp hc).1 (by have := ((memc c).mp hc).2.1; omega)
  have tot : sm (fun c => if op c then w c else 0) 24 = xw (pls V (mq σ) n) w op := sm_pl nd (fun c hc => ((memc c).mp hc).1) _ (fun c hc => if_neg (fun z => hc (ho.1 c z)))
  have bd : ∀ i, i ≤ 24 → 0 ≤ sm (fun c => if op c then w c else 0) i ∧ sm (fun c => if op c then w c else 0) i ≤ 1000000 * (i : Int) := by
    intro i
    induction i with
    | zero => exact fun _ => ⟨Int.le_refl _, Int.le_refl _⟩
    | succ i ih =>
      intro hi
      have := ih (by omega)
      have e : sm (fun c => if op c then w c else 0) (i + 1) = sm (fun c => if op c then w c else 0) i + (if op i then w i else 0) := rfl
      rw [e]
      cases oi : op i
      · simp only [Bool.false_eq_true, if_false]
        omega
      · have := w1 i (ho.1 i oi)
        simp only [if_true]
        omega
  rw [← tot]
  unfold fX9_tightens
  rw [j_nm]
  refine lp (F := fun f (s : Int64 × Int32) => fX9_tightens_5 462 f σ room (nI D) s.1 s.2) (Q := fun o => ∃ W : Int64, o = fX9_tightens_59 462 FU σ (nI D) W ((room - oI (xc (pls V (mq σ) n) m op)).toInt64) 0 0 ∧ W.toInt = sm (fun c => if op c then w c else 0) 24) (fun i s => s.1.toInt = sm (fun c => if op c then w c else 0) i ∧ s.2 = nI i) 24 ?_ ?_ 24 0 FU (0, 0) rfl (by decide) ⟨rfl, rfl⟩
  · rintro f i ⟨a, l⟩ hi ⟨ha, rfl⟩
    simp only at ha
    have ei : (nI i).toInt = i := j_nI (by omega)
    have nle : ¬ (24 : Int32) ≤ nI i := n_ge 24 (m := 24) rfl hi (by decide)
    have cki : ck (nI i) 24 := j_ckn hi (by decide)
    have ecl : (nI i).toNatClampNeg = i := j_cl _ (by omega)
    have s9 : σ.1 (462 + 9) (nI i).toNatClampNeg = 0 ↔ op i = false := by
      rw [ecl]
      exact ho.f hi
    have nx : sm (fun c => if op c then w c else 0) (i + 1) = sm (fun c => if op c then w c else 0) i + (if op i then w i else 0) := rfl
    have b := bd i (by omega)
    show ∃ s' : Int64 × Int32, _ ∧ fX9_tightens_5 462 (f + 1) σ room (nI D) a (nI i) = _
    rw [fX9_tightens_5, if_neg nle, if_pos cki]
    cases oi : op i
    · rw [if_pos (s9.mpr oi)]
      unfold fX9_tightens_35
      rw [j_nm, j_s]
      refine ⟨(_, nI (i + 1)), ⟨?_, rfl⟩, rfl⟩
      show (a + 0).toInt = _
      rw [k_add (by rw [ha, kz0]; omega) (by rw [ha, kz0]; omega), ha, kz0, nx, oi]
      rfl
    · have n9 : ¬ σ.1 (462 + 9) (nI i).toNatClampNeg = 0 := fun y => by
        rw [s9, oi] at y
        cases y
      have iin := ho.1 i oi
      obtain ⟨i23, q, -⟩ := (memc i).mp iin
      have ww := w1 i iin
      rw [if_neg n9, m_i3 ei hi, j_b]
      unfold fX9_tightens_35
      rw [j_nm, j_s]
      refine ⟨(_, nI (i + 1)), ⟨?_, rfl⟩, rfl⟩
      show (a + (oI (mv (σ.1 463) 3 i)).toInt64).toInt = _
      have wt : (oI (mv (σ.1 463) 3 i)).toInt64.toInt = w i := by rw [k_64, t_mv, h.we i23 (by omega), hw i iin]
      rw [k_add (by rw [ha, wt]; omega) (by rw [ha, wt]; omega), ha, wt, nx, oi]
      rfl
  · rintro f ⟨a, l⟩ ⟨ha, rfl⟩
    simp only at ha
    show ∃ W : Int64, fX9_tightens_5 462 (f + 1) σ room (nI D) a (nI 24) = _ ∧ _
    rw [fX9_tightens_5, if_pos (n_le 24 (m := 24) rfl (by decide)), m_closed h t hn k1 hD hc h12 ho hm, j_b, j_nm]
    exact ⟨a, rfl, ha⟩
end MH9

/-! THE RELATION: the class's plan is a plan -/
/-- window w's part of the plan is right -/
def Wl (V : VW) (mw mh : Nat → Int) (P : VW) (wn : Nat → Int) (w : Nat) : Prop := (∀ n, n < 23 → V 8 n ≠ 3 → wn n = w → EM V mw mh P n ∧ EA V P n) ∧ ∀ r : Nat, V 5 w = r → P 4 r = V 1 w ∧ P 5 r = V 2 w ∧ P 6 r = V 3 w ∧ P 7 r = V 4 w
section CP
variable {σ : Sg} {d : Nat → Nat} {wn : Nat → Int} {X : Nat → Bool}
theorem Wl.cg {V : VW} {mw mh : Nat → Int} {P P' : VW} {w w2 : Nat} (t : Tree V d wn X) (hw : w < 5) (h : Wl V mw mh P wn w) (ne : w ≠ w2) (e : ∀ j n, j ≤ 7 → n < 23 → (V 8 n = 3 ∨ wn n ≠ w2) → P' j n = P j n) : Wl V mw mh P' wn w := by
  have g : ∀ n, n < 23 → wn n = w → ∀ j c, j ≤ 7 → c < 23 → (c = n ∨ V 9 c = n) → P' j c = P j c := fun n hn hwn j c hj c23 hc => by
    refine e j c hj c23 (Or.inr ?_)
    rcases hc with rfl | hc
    · rw [hwn]; omega
    · rw [(t.par c23 hc).2.2.2, hwn]; omega
  refine ⟨fun n hn hu hwn => ⟨(h.1 n hn hu hwn).1.cg t hn (fun j c hj => g n hn hwn j c (by omega)), (h.1 n hn hu hwn).2.cg t hn (g n hn hwn)⟩, fun r hr => ?_⟩
  obtain ⟨a, b, c, f⟩ := h.2 r hr
  rcases t.wi hw with z | ⟨n, hn, e5, -, -, ewn⟩
  · omega
  · have : n = r := by omega
    subst this
    rw [g n hn ewn 4 n (by decide) hn (Or.inl rfl), g n hn ewn 5 n (by decide) hn (Or.inl rfl), g n hn ewn 6 n (by decide) hn (Or.inl rfl), g n hn ewn 7 n (by decide) hn (Or.inl rfl)]
    exact ⟨a, b, c, f⟩
/-- the last step of a window: its root's rectangle, then all the rest -/
theorem s_wend {w : Nat} (hw : w < 5) (l4 : Int32) : ∃ σ', fX2_computeWindow_27 422 1 1 σ (nI w) l4 (-1) = fX2_computeWindow_147 422 1 FU σ' 0 ∧ σ' = pt (pt (pt (pt σ 426 23 l4 (oI (pv σ 6 1 w))) 427 23 l4 (oI (pv σ 6 2 w))) 428 23 l4 (oI (pv σ 6 3 w))) 429 23 l4 (oI (pv σ 6 4 w)) := by
  have ew : (nI w).toInt = w := j_nI (by omega)
  have pe : ∀ (s : Sg) (c : Nat) (v : Int32), 422 ≤ c → pv (pt s c 23 l4 v) 6 = pv s 6 := fun s c v hc => pv_oc (pt_out) (by omega)
  refine ⟨_, ?_, rfl⟩
  show fX2_computeWindow_27 422 1 (0 + 1) σ (nI w) l4 (-1) = _
  rw [fX2_computeWindow_27, if_pos (by decide), show (1 + 5 : Nat) = 6 from rfl, s_v1, j_b, ew, ga_in hw, s_pt (by decide), j_b, s_v2, j_b, ew, ga_in hw, pe _ _ _ (by decide), s_pt (by decide), j_b, s_v3, j_b, ew, ga_in hw, pe _ _ _ (by decide), pe _ _ _ (by decide), s_pt (by decide), j_b, s_v4, j_b, ew, ga_in hw, pe _ _ _ (by decide), pe _ _ _ (by decide), pe _ _ _ (by decide), s_pt (by decide), j_b]
/-- a window is computed -/
theorem s_computeWindow (t : Tree (pv σ 6) d wn X) (tb : Tabs (pv σ 6) X) (ge : Geo (pv σ 6)) (hw : ∀ p, p < 12 → (0 ≤ rw12 (σ.1 2) p ∧ rw12 (σ.1 2) p ≤ 40) ∧ (pv σ 6 13 p ≠ -1 → 1 ≤ rw12 (σ.1 2) p)) (hh : ∀ p, p < 12 → 0 ≤ rw12 (σ.1 3) p ∧ rw12 (σ.1 3) p ≤ 40) {w : Nat} (w5 : w < 5) : ∃ σ', fX2_computeWindow σ 422 1 (nI w) = some σ' ∧ Out σ σ' 422 437 ∧ (∀ j n, j ≤ 7 → n < 23 → (pv σ 6 8 n = 3 ∨ wn n ≠ w) → qv σ' j n = qv σ j n) ∧ Wl (pv σ 6) (rw12 (σ.1 2)) (rw12 (σ.1 3)) (qv σ') wn w := by
  have ew : (nI w).toInt = w := j_nI (by omega)
  have t5 := t_ga (σ := σ) (b := 6) (j := 5) (n := 5) (p := (w : Int))
  rw [ga_in w5] at t5
  unfold fX2_computeWindow
  rw [show (1 + 5 : Nat) = 6 from rfl, s_rootOf, j_b, ew, ga_in w5]
  rcases t.wi w5 with z | ⟨r, hr, e5, hu, h9, ewn⟩
  · -- no root
    have em : oI (pv σ 6 5 w) = -1 := j_eq.mpr (by rw [t5, z, jm1])
    rw [em]
    have a8 : (su σ 422 8 0).1 422 8 = 0 := by rw [su_at, if_pos ⟨rfl, rfl⟩]
    have ln : fX2_listNodes σ 422 6 (-1) = some (su σ 422 8 0) := by
      unfold fX2_listNodes fX2_list
      rw [j_nm, if_pos rfl, j_b]
      show fX2_listNodes_12 422 6 (5999 + 1) _ 0 = _
      rw [fX2_listNodes_12, if_neg (by decide), a8, if_pos (by decide)]
    obtain ⟨σ2, a2, e2⟩ := s_wend (σ := su σ 422 8 0) w5 (-1)
    have same : σ2 = su σ 422 8 0 := by
      have p0 : ∀ (s : Sg) (c : Nat) (v : Int32), pt s c 23 (-1) v = s := fun s c v => by
        unfold pt
        rw [if_neg (by rw [jm1]; omega)]
      rw [e2, p0, p0, p0, p0]
    rw [same] at a2
    have fin : fX2_computeWindow_27 422 1 FU (su σ 422 8 0) (nI w) (-1) (-1) = some (su σ 422 8 0) := by
      have : fX2_computeWindow_27 422 1 FU (su σ 422 8 0) (nI w) (-1) (-1) = fX2_computeWindow_27 422 1 1 (su σ 422 8 0) (nI w) (-1) (-1) := by
        show fX2_computeWindow_27 422 1 (5999 + 1) _ _ _ _ = fX2_computeWindow_27 422 1 (0 + 1) _ _ _ _
        rw [fX2_computeWindow_27, if_pos (by decide), fX2_computeWindow_27, if_pos (by decide)]
      rw [this, a2]
      show fX2_computeWindow_147 422 1 (5999 + 1) _ 0 = _
      rw [fX2_computeWindow_147, a8, if_pos (by decide)]
    rw [ln, j_b, a8, j_nm]
    refine ⟨su σ 422 8 0, fin, su_out.mo (by omega) (by omega), fun j n hj hn _ => ?_, fun n hn nu hwn => ?_, fun r hr => ?_⟩
    · by_cases j0 : j = 0
      · subst j0
        unfold qv
        rw [if_neg (by omega), if_neg (by omega)]
      · exact qv_eq (by rw [su_ne (by omega)])
    · exfalso
      obtain ⟨w', x1, x2, x3⟩ := t.wr5 hn nu
      have : w' = w := by omega
      subst this
      exact x3 z
    · omega
  · have er : oI (pv σ 6 5 w) = nI r := j_eq.mpr (by rw [t5, e5, j_nI (by omega)])
    rw [er]
    obtain ⟨σ1, ls, a1, f1, r1, v1, B⟩ := s_listNodes t hr h9 hu
    have pe1 := f1.pv
    have hwB : ∀ p, p < 12 → 0 ≤ rw12 (σ.1 2) p ∧ rw12 (σ.1 2) p ≤ 40 := fun p hp => (hw p hp).1
    obtain ⟨σ2, a2, f2, hE⟩ := s_measure (σ := σ1) (d := d) (wn := wn) (X := X) (by rw [pe1]; exact t) (by rw [pe1]; exact tb) (by rw [f1.2.1 2 (by decide) (by decide), pe1]; exact hw) (by rw [f1.2.1 3 (by decide) (by decide)]; exact hh) (r := r) (ls := ls) (by rw [pe1]; exact B) (by rw [pe1]; exact h9) r1 (nI w) (nI r)
    rw [pe1, f1.2.1 2 (by decide) (by decide), f1.2.1 3 (by decide) (by decide)] at hE
    have pe2 : pv σ2 6 = pv σ 6 := f2.pv.trans pe1
    obtain ⟨σ3, a3, e3⟩ := s_wend (σ := σ2) w5 (nI r)
    rw [pe2] at e3
    have rr : (nI r).toInt = r := j_nI (by omega)
    have ps : ∀ (s : Sg) (c : Nat) (v : Int32), pt s c 23 (nI r) v = su s c r v := fun s c v => by
      unfold pt
      rw [rr, if_pos (by omega)]
      rfl
    rw [ps, ps, ps, ps] at e3
    have pv4 : ∀ j, (oI (pv σ 6 j w)).toInt = pv σ 6 j w := fun j => j_oI (pv_rg σ 6 j w).1 (pv_rg σ 6 j w).2
    have o3 : Out σ2 σ3 426 429 := by
      rw [e3]
      exact (((su_out.mo (by omega) (by omega)).tr (su_out.mo (by omega) (by omega))).tr (su_out.mo (by omega) (by omega))).tr (su_out.mo (by omega) (by omega))
    have q3 : ∀ j i, i ≠ r → σ3.1 j i = σ2.1 j i := fun j i hi => by
      rw [e3, su_at, if_neg (fun z => hi z.2), su_at, if_neg (fun z => hi z.2), su_at, if_neg (fun z => hi z.2), su_at, if_neg (fun z => hi z.2)]
    have c4 : σ3.1 426 r = oI (pv σ 6 1 w) := by rw [e3, su_at, if_neg (by omega), su_at, if_neg (by omega), su_at, if_neg (by omega), su_at, if_pos ⟨rfl, rfl⟩]
    have c5 : σ3.1 427 r = oI (pv σ 6 2 w) := by rw [e3, su_at, if_neg (by omega), su_at, if_neg (by omega), su_at, if_pos ⟨rfl, rfl⟩]
    have c6 : σ3.1 428 r = oI (pv σ 6 3 w) := by rw [e3, su_at, if_neg (by omega), su_at, if_pos ⟨rfl, rfl⟩]
    have c7 : σ3.1 429 r = oI (pv σ 6 4 w) := by rw [e3, su_at, if_pos ⟨rfl, rfl⟩]
    have pe3 : pv σ3 6 = pv σ 6 := (pv_oc o3 (by decide)).trans pe2
    have Q3 : ∀ j i, j ≤ 3 → qv σ3 j i = qv σ2 j i := fun j i hj => qv_eq (by rw [o3.2 _ (by omega)])
    obtain ⟨g1, g2, g3, g4⟩ := ge w w5
    obtain ⟨σ4, a4, f4, k4, hA⟩ := s_arr147 (σ := σ3) (d := d) (wn := wn) (X := X) (mw := rw12 (σ.1 2)) (mh := rw12 (σ.1 3)) (by rw [pe3]; exact t) hwB hh (r := r) (ls := ls) (by rw [pe3]; exact B) (by rw [pe3]; exact h9) (by rw [o3.2 430 (by omega), f2.2.1 430 (by omega)]; exact r1) (by rw [o3.2 422 (by omega), f2.2.1 422 (by omega)]; exact v1) (fun n hn => by
      rw [pe3]
      exact (hE n hn).cg t (B.2.2.1 n hn).1 (fun j c hj _ _ => Q3 j c hj)) (by
      rw [qv_at (by decide) (by decide) hr, qv_at (by decide) (by decide) hr]
      show (0 ≤ (σ3.1 428 r).toInt ∧ (σ3.1 428 r).toInt ≤ 400) ∧ 0 ≤ (σ3.1 429 r).toInt ∧ (σ3.1 429 r).toInt ≤ 400
      rw [c6, c7, pv4, pv4]
      omega)
    rw [pe3] at hA
    have all := B.all t hr h9 hu w5 e5
    have OO : Out σ σ4 422 437 := by
      refine ⟨f4.1.trans (o3.1.trans (f2.1.trans f1.1)), fun c hc => ?_⟩
      rw [f4.2.1 c (by omega), o3.2 c (by omega), f2.2.1 c (by omega), f1.2.1 c (by omega) (by omega)]
    refine ⟨σ4, ?_, OO, fun j n hj hn hx => ?_, fun n hn nu hwn => ?_, fun r' hr' => ?_⟩
    · rw [a1, j_b, v1, j_nm, a2, a3, a4]
    · have nl : ¬ n ∈ ls := fun y => by
        obtain ⟨y1, y2, y3⟩ := (all n).mp y
        rcases hx with x | x
        · exact y2 x
        · exact x y3
      by_cases j0 : j = 0
      · subst j0
        unfold qv
        rw [if_neg (by omega), if_neg (by omega)]
      · refine qv_eq ?_
        have nr : n ≠ r := fun y => nl (by rw [y]; exact (all r).mpr ⟨hr, hu, ewn⟩)
        have b1 : σ4.1 (422 + j) n = σ3.1 (422 + j) n := by
          by_cases y : 4 ≤ j
          · exact f4.2.2 _ n (by omega) (by omega) nl
          · rw [f4.2.1 _ (by omega)]
        rw [b1, q3 _ n nr, f2.2.2 _ n (by omega) nl, f1.2.1 _ (by omega) (by omega)]
    · have nl := (all n).mpr ⟨hn, nu, hwn⟩
      refine ⟨(hE n nl).cg t hn (fun j c hj _ _ => ?_), hA n nl⟩
      rw [← Q3 j c hj]
      exact qv_eq (by rw [f4.2.1 _ (by omega)])
    · have : r' = r := by omega
      subst this
      rw [qv_at (by decide) (by decide) hr, qv_at (by decide) (by decide) hr, qv_at (by decide) (by decide) hr, qv_at (by decide) (by decide) hr]
      show (σ4.1 426 r').toInt = _ ∧ (σ4.1 427 r').toInt = _ ∧ (σ4.1 428 r').toInt = _ ∧ (σ4.1 429 r').toInt = _
      rw [k4 426 (by decide) (by decide), k4 427 (by decide) (by decide), k4 428 (by decide) (by decide), k4 429 (by decide) (by decide), c4, c5, c6, c7, pv4, pv4, pv4, pv4]
      exact ⟨rfl, rfl, rfl, rfl⟩
/-- compute: the plan is right for the state -/
theorem s_compute (t : Tree (pv σ 6) d wn X) (tb : Tabs (pv σ 6) X) (ge : Geo (pv σ 6)) (hw : ∀ p, p < 12 → (0 ≤ rw12 (σ.1 2) p ∧ rw12 (σ.1 2) p ≤ 40) ∧ (pv σ 6 13 p ≠ -1 → 1 ≤ rw12 (σ.1 2) p)) (hh : ∀ p, p < 12 → 0 ≤ rw12 (σ.1 3) p ∧ rw12 (σ.1 3) p ≤ 40) : ∃ σ', fX2_compute σ 422 1 = some σ' ∧ Out σ σ' 422 437 ∧ Lay (pv σ 6) (rw12 (σ.1 2)) (rw12 (σ.1 3)) (qv σ') ∧ ∀ n, n < 23 → pv σ 6 8 n = 3 → qv σ' 1 n = 0 := by
  unfold fX2_compute
  obtain ⟨σ1, a1, o1, v1⟩ := s_fill σ 423 23 0 (by decide)
  rw [show (422 + 1 : Nat) = 423 from rfl, a1, j_b]
  have O1 : Out σ σ1 422 437 := o1.mo (by omega) (by omega)
  refine lp (F := fun m (s : Sg × Int32) => fX2_compute_10 422 1 m s.1 s.2) (Q := fun o => ∃ σ', o = some σ' ∧ Out σ σ' 422 437 ∧ Lay (pv σ 6) (rw12 (σ.1 2)) (rw12 (σ.1 3)) (qv σ') ∧ ∀ n, n < 23 → pv σ 6 8 n = 3 → qv σ' 1 n = 0) (fun i s => s.2 = nI i ∧ Out σ s.1 422 437 ∧ (∀ w, w < i → Wl (pv σ 6) (rw12 (σ.1 2)) (rw12 (σ.1 3)) (qv s.1) wn w) ∧ ∀ n, n < 23 → pv σ 6 8 n = 3 → qv s.1 1 n = 0) 5 ?_ ?_ 5 0 FU (σ1, 0) rfl (by decide) ⟨rfl, O1, fun w hw => absurd hw (by omega), fun n hn _ => by
    rw [qv_at (by decide) (by decide) hn]
    show (σ1.1 423 n).toInt = 0
    rw [v1 n hn]
    rfl⟩
  · rintro m i ⟨s, l⟩ hi ⟨rfl, ho, hv, h0⟩
    simp only at ho hv h0
    have pe : pv s 6 = pv σ 6 := pv_oc ho (by decide)
    have e2 : s.1 2 = σ.1 2 := ho.2 2 (by omega)
    have e3 : s.1 3 = σ.1 3 := ho.2 3 (by omega)
    obtain ⟨σ2, a2, o2, f2, w2⟩ := s_computeWindow (σ := s) (d := d) (wn := wn) (X := X) (by rw [pe]; exact t) (by rw [pe]; exact tb) (by rw [pe]; exact ge) (by rw [pe, e2]; exact hw) (by rw [e3]; exact hh) hi
    rw [pe] at f2
    rw [pe, e2, e3] at w2
    show ∃ s' : Sg × Int32, _ ∧ fX2_compute_10 422 1 (m + 1) s (nI i) = _
    rw [fX2_compute_10, if_neg (n_ge 5 (m := 5) rfl hi (by decide)), a2, j_b, j_s]
    refine ⟨(σ2, nI (i + 1)), ⟨rfl, ho.tr o2, fun w hw => ?_, fun n hn hf => ?_⟩, rfl⟩
    · by_cases q : w = i
      · subst q
        exact w2
      · exact (hv w (by omega)).cg t (by omega) q f2
    · show qv σ2 1 n = 0
      rw [f2 1 n (by decide) hn (Or.inl hf)]
      exact h0 n hn hf
  · rintro m ⟨s, l⟩ ⟨rfl, ho, hv, h0⟩
    simp only at ho hv h0
    show ∃ σ', fX2_compute_10 422 1 (m + 1) s (nI 5) = _ ∧ _
    rw [fX2_compute_10, if_pos (n_le 5 (m := 5) rfl (by decide))]
    have at_ : ∀ n, n < 23 → pv σ 6 8 n ≠ 3 → EM (pv σ 6) (rw12 (σ.1 2)) (rw12 (σ.1 3)) (qv s) n ∧ EA (pv σ 6) (qv s) n := fun n hn hu => by
      obtain ⟨w, w5, e, -⟩ := t.wr5 hn hu
      exact (hv w w5).1 n hn hu e
    exact ⟨s, rfl, ho, ⟨fun n hn k => (at_ n hn (by omega)).1.1 k, fun n hn k => (at_ n hn (by omega)).1.2 k, fun w n hw e => (hv w hw).2 n e, fun n hn k q => (at_ n hn (by omega)).2 k q⟩, h0⟩
end CP

/-! THE RELATION: drag -/
section RAM
theorem RR.mk9 {σ σ' : Sg} {S : ST} {l : List ST} (c : CR σ S l) (tx : TX σ) (f : F9 σ σ' ∨ ∃ k, G9 σ σ' k) (m : MR σ' S l) : RR σ' := by
  have a : (∀ c, c < 462 → σ'.1 c = σ.1 c) ∧ σ'.1 465 = σ.1 465 ∧ σ'.1 462 5 = σ.1 462 5 := by
    rcases f with f | ⟨k, f⟩
    · exact ⟨f.1, f.2.1, f.2.2.1⟩
    · exact ⟨f.1, f.2.1, f.2.2.1⟩
  exact ⟨S, l, c.c (fun x hx => a.1 x (by omega)), m, tx.c (by rw [a.1 438 (by omega)]) (a.1 439 (by omega)) a.2.2 a.2.1⟩
theorem pi_no2 {σ σ2 : Sg} {F : Option (Int32 × Sg)} {G : Sg → Option (Int32 × Sg)} {k b : Int32} (hF : F = some (k, σ)) (hk : k ≠ 0) (hG : G σ = some (b, σ2)) (h3 : σ2.1 462 3 = k) (h : RR σ2) : PI F G :=
  ⟨k, σ, b, σ2, hF, hG, h3, h, fun z => absurd z hk⟩
theorem nad_sh {V P : VW} {d : Nat → Nat} {wn : Nat → Int} {X : Nat → Bool} (t : Tree V d wn X) {side : Int} (hp : ∀ c s : Nat, c < 23 → V 9 c = s → P 1 c = 1 → P 1 s = 1) : ∀ (k n : Nat), n < 23 → P 1 n = 1 → nad V P side k n ≠ -1 → ∃ m : Nat, m < 23 ∧ nad V P side k n = m ∧ snb V P m side ≠ -1 ∧ P 1 m = 1 := by
  intro k
  induction k with
  | zero => exact fun n _ _ h => absurd rfl h
  | succ k ih =>
    intro n hn pn h
    have u : nad V P side (k + 1) n = if snb V P n side = -1 then nad V P side k (ga (V 9) 23 n) else n := by
      show (if (n : Int) = -1 then -1 else if snb V P (n : Int).toNat side = -1 then _ else (n : Int)) = _
      rw [if_neg (by omega), Int.toNat_natCast]
    rw [u] at h ⊢
    by_cases w : snb V P n side = -1
    · rw [if_pos w] at h ⊢
      rw [ga_in hn] at h ⊢
      by_cases z : V 9 n = -1
      · rw [z, nad_m1] at h
        exact absurd rfl h
      · obtain ⟨s, hs23, es, -⟩ := t.pa hn z
        rw [es] at h ⊢
        exact ih s hs23 (hp n s hn es pn) h
    · rw [if_neg w]
      exact ⟨n, hn, rfl, w, pn⟩
/-- the divider -/
def Dv (V P : VW) (side : Int) (a b s D : Nat) : Prop := a < 23 ∧ b < 23 ∧ a ≠ b ∧ s < 23 ∧ V 9 a = s ∧ V 9 b = s ∧ V 8 s ≤ 1 ∧ V 8 s = D ∧ D ≤ 1 ∧ v_dir side = D ∧ P 1 a = 1 ∧ P 1 b = 1
theorem dv_ex {V P : VW} {d : Nat → Nat} {wn : Nat → Int} {X : Nat → Bool} (t : Tree V d wn X) {side : Int} {m : Nat} (hm : m < 23) (pm : P 1 m = 1) (h : snb V P m side ≠ -1) : ∃ a b s D : Nat, Dv V P side a b s D ∧ ahN V P m side = a ∧ beN V P m side = b := by
  obtain ⟨s, o, hs, e9, ks, w8, ho, eo, e9o, po, ne⟩ := snb_ex t hm h
  have dc := dir_rg side
  have eD : V 8 s = (v_dir side).toNat := by omega
  rcases nbE_c side with v | v
  · refine ⟨o, m, s, (v_dir side).toNat, ⟨ho, hm, ne, hs, e9o, e9, ks, eD, by omega, by omega, po, pm⟩, ?_, ?_⟩
    · unfold ahN
      rw [if_pos v, eo]
    · unfold beN
      rw [if_pos v]
  · refine ⟨m, o, s, (v_dir side).toNat, ⟨hm, ho, fun z => ne z.symm, hs, e9, e9o, ks, eD, by omega, by omega, pm, po⟩, ?_, ?_⟩
    · unfold ahN
      rw [if_neg (by omega)]
    · unfold beN
      rw [if_neg (by omega), eo]
theorem s_132 {σ σ1 : Sg} {S : ST} {L : List ST} {P : VW} (c1 : CR σ1 S L) (hP : qv σ1 = P) {side by_ : Int32} {a b s D : Nat} (dv : Dv (S_pl S) P side.toInt a b s D) : ∃ σ2, fX8_drag_132 σ1 side by_ (oI (a : Int)) (oI (b : Int)) = some (.inl (oI (mvI P D a b by_.toInt)), σ2) ∧ (∀ c, 438 ≤ c → σ2.1 c = σ1.1 c) ∧ CR σ2 (pfS S (S_fo S) (wgV (S_pl S) (fun n => decide (S_pl S 9 n = s)) (wG (S_pl S) P D a b s (mvI P D a b by_.toInt)))) L := by
  have hS := c1.2.2.1
  obtain ⟨-, -, h3, -, ⟨d, wn, t, tb, lo, ge⟩, -, -⟩ := id hS
  obtain ⟨ha, hb, ne, hs, e9a, e9b, ks, wd, hD, dd, pa, pb⟩ := dv
  have hL := c1.2.2.2.2.1
  rw [hP] at hL
  have hw := fun p hp => (h3 p hp).1
  have hh := fun p hp => (h3 p hp).2.1
  have bx := fun n (hn : n < 23) (hu : S_pl S 8 n ≠ 3) (p : P 1 n = 1) => Lay.bx t ge hL hw hh 22 n (t.dqs hn hu).1 hn hu p
  have ls := fun n (hn : n < 23) (hu : S_pl S 8 n ≠ 3) (p : P 1 n = 1) => Lay.ls t hL hw hh hn hu p
  have uc : ∀ n, n < 23 → S_pl S 9 n = s → S_pl S 8 n ≠ 3 := fun n hn e => t.us hn (by omega)
  have cD : D = 0 ∨ D = 1 := by omega
  have bnd : ∀ n, n < 23 → S_pl S 9 n = s → P 1 n = 1 → (0 ≤ P (6 + D) n ∧ P (6 + D) n ≤ 400) ∧ 0 ≤ P (2 + D) n ∧ P (2 + D) n ≤ 965 := fun n hn e p => by
    have b := bx n hn (uc n hn e) p
    have l := ls n hn (uc n hn e) p
    rcases cD with rfl | rfl
    · exact ⟨b.1, l.1⟩
    · exact ⟨b.2, l.2⟩
  have ba := bnd a ha e9a pa
  have bb := bnd b hb e9b pb
  have hDl : (oI (v_dir side.toInt) = 0 ∧ D = 0) ∨ (¬ oI (v_dir side.toInt) = 0 ∧ D = 1) := by
    rw [dd]
    rcases cD with rfl | rfl
    · exact Or.inl ⟨rfl, rfl⟩
    · exact Or.inr ⟨by decide, rfl⟩
  have mr := mvI_rg (P := P) (D := D) (a := a) (b := b) (by_ := by_.toInt) ⟨ba.1, ba.2.1⟩ ⟨bb.1, bb.2.1⟩
  obtain ⟨σ2, a2, o2, v2⟩ := s_weigh c1.1 t hP ha hb e9a hs ks wd hD pa mr (fun n hn e p => (bnd n hn e p).1)
  have gB : ∀ n, n < 23 → decide (S_pl S 9 n = s) = true → 1 ≤ wG (S_pl S) P D a b s (mvI P D a b by_.toInt) n ∧ wG (S_pl S) P D a b s (mvI P D a b by_.toInt) n ≤ 1000000 := fun n hn e => by
    have e := of_decide_eq_true e
    unfold wG
    by_cases p : P 1 n = 1
    · rw [if_pos p]
      have := wsz_rg (a := a) (b := b) mr (bnd n hn e p).1
      omega
    · rw [if_neg p]
      unfold wcl
      repeat' split
      all_goals omega
  have hSI := hS.wg (D := fun n => decide (S_pl S 9 n = s)) (g := wG (S_pl S) P D a b s (mvI P D a b by_.toInt)) gB
  obtain ⟨σ3, a3, o3, c3⟩ := c1.mod (fun x hx => o2.2 x (by omega)) v2 hSI
  refine ⟨σ3, ?_, fun c hc => by rw [o3.2 c (by omega), o2.2 c (by omega)], c3⟩
  unfold fX8_drag_132
  rw [s_dirb, j_b, s_step hP hDl ha hb ba bb, j_b, a2, j_b, a3, j_b]
/-- the reference, behind its tests -/
theorem m_238 {s0 : Sg} {S : ST} {l : List ST} {P : VW} (m0 : MR s0 S l) (hS : SI S) (hLP : Lay (S_pl S) (S_mw S) (S_mh S) P) (hLQ : Lay (S_pl S) (S_mw S) (S_mh S) (mq s0)) {side : Int} {a b s D : Nat} (dv : Dv (S_pl S) P side a b s D) (e13 : s0.1 462 13 = oI (a : Int)) (e14 : s0.1 462 14 = oI (b : Int)) {x : Int} (hx : -400 ≤ x ∧ x ≤ 400) : ∃ s1, fX9_drag_238 462 s0 (nI D) (oI x) = some (oI x, s1) ∧ F9 s0 s1 ∧ MR s1 (pfS S (S_fo S) (wgV (S_pl S) (fun n => decide (S_pl S 9 n = s)) (wG (S_pl S) P D a b s x))) (keep l S) := by
  obtain ⟨-, -, h3, -, ⟨d, wn, t, tb, lo, ge⟩, -, -⟩ := id hS
  obtain ⟨ha, hb, ne, hs, e9a, e9b, ks, wd, hD, dd, pa, pb⟩ := dv
  have hw := fun p hp => (h3 p hp).1
  have hh := fun p hp => (h3 p hp).2.1
  have uc : ∀ n, n < 23 → S_pl S 9 n = s → S_pl S 8 n ≠ 3 := fun n hn e => t.us hn (by omega)
  have bx := fun n (hn : n < 23) (hu : S_pl S 8 n ≠ 3) (p : P 1 n = 1) => Lay.bx t ge hLP hw hh 22 n (t.dqs hn hu).1 hn hu p
  have cD : D = 0 ∨ D = 1 := by omega
  have bnd : ∀ n, n < 23 → S_pl S 9 n = s → P 1 n = 1 → 0 ≤ P (6 + D) n ∧ P (6 + D) n ≤ 400 := fun n hn e p => by
    have b := bx n hn (uc n hn e) p
    rcases cD with rfl | rfl
    · exact b.1
    · exact b.2
  obtain ⟨s1, b1, g1, x1, m1⟩ := m_kr m0
  -- saves leaves the plan as it is
  obtain ⟨σs, bs, os, ms⟩ := m_saves m0.1 m0.2
  have es : σs = s1 := by
    rw [b1] at bs
    exact ((Option.some.inj bs)).symm
  subst es
  have f13 : σs.1 462 13 = oI (a : Int) := by rw [os.2.2 13 (by omega)]; exact e13
  have f14 : σs.1 462 14 = oI (b : Int) := by rw [os.2.2 14 (by omega)]; exact e14
  have f67 : ∀ c, 466 ≤ c → σs.1 c = s0.1 c := fun c hc => os.2.1 c (by omega) (by omega)
  have eidx : ∀ n : Nat, n < 23 → 4 * oI (n : Int) + 2 + nI D = nI (4 * n + 2 + D) := fun n hn => by
    rw [← j_nIo n (by omega), show (4 : Int32) * nI n = nI (4 * n) from (Int32.ofNat_mul 4 n).symm, show (2 : Int32) = nI 2 from rfl, j_a, j_a]
  obtain ⟨w1, hw1⟩ : ∃ w1 : Sg, w1 = su σs 469 (4 * a + 2 + D) (σs.1 469 (4 * a + 2 + D) + oI x) := ⟨_, rfl⟩
  obtain ⟨w2, hw2⟩ : ∃ w2 : Sg, w2 = su w1 469 (4 * b + 2 + D) (w1.1 469 (4 * b + 2 + D) - oI x) := ⟨_, rfl⟩
  have W : Out σs w2 469 469 := by
    rw [hw2, hw1]
    exact su_out.tr su_out
  have w63 : w2.1 463 = σs.1 463 := W.2 463 (by omega)
  have vm1 := m1.2.2.1
  have vm2 : VM (mv (w2.1 463)) (S_pl S) (fun _ => false) := by rw [w63]; exact vm1
  have tx : (oI x).toInt = x := j_oI (by omega) (by omega)
  have le1 := fun n (hn : n < 23) (e : S_pl S 9 n = s) => lay_eq hS hLP hLQ hn (uc n hn e)
  have cell : ∀ n : Nat, n < 23 → (s0.1 469 (4 * n + 2 + D)).toInt = mq s0 (6 + D) n := fun n hn => by
    rw [show 6 + D = 4 + (2 + D) by omega, mqR (by omega) (by omega), show 4 * n + (2 + D) = 4 * n + 2 + D by omega]
  have hq : ∀ c, c < 23 → S_pl S 9 c = s → P 1 c = 1 → (w2.1 469 (4 * c + 2 + D)).toInt = P (6 + D) c + chg a b x c := fun c hc e p => by
    have bc := bnd c hc e p
    have pq := (le1 c hc e).2 p (6 + D) (by omega) (by omega)
    have c0 : (σs.1 469 (4 * c + 2 + D)).toInt = P (6 + D) c := by rw [f67 469 (by omega), cell c hc, pq]
    unfold chg
    rw [hw2, su_at]
    by_cases zb : c = b
    · rw [if_pos ⟨rfl, by omega⟩, if_neg (show ¬ c = a by omega), if_pos zb]
      have cb : w1.1 469 (4 * b + 2 + D) = σs.1 469 (4 * b + 2 + D) := by
        rw [hw1, su_at, if_neg (by omega)]
      rw [cb, ← zb, j_sub (by rw [c0, tx]; omega) (by rw [c0, tx]; omega), c0, tx]
      omega
    · rw [if_neg (by omega), hw1, su_at]
      by_cases za : c = a
      · rw [if_pos ⟨rfl, by omega⟩, if_pos za, ← za, j_add (by rw [c0, tx]; omega) (by rw [c0, tx]; omega), c0, tx]
      · rw [if_neg (by omega), if_neg za, if_neg zb, c0]
        omega
  have hp : ∀ c, c < 23 → S_pl S 9 c = s → (w2.1 467 c = 0 ↔ ¬ P 1 c = 1) := fun c hc e => by
    rw [W.2 467 (by omega), f67 467 (by omega)]
    have pe := (le1 c hc e).1
    have b01 : mq s0 1 c = 0 ∨ mq s0 1 c = 1 := by
      have kr := t.ki hc
      have : S_pl S 8 c = 2 ∨ S_pl S 8 c ≤ 1 := by have := uc c hc e; omega
      rcases this with u | u
      · exact (hLQ.1 c hc u).1
      · exact (hLQ.2.1 c hc u).1
    rw [mq1 (by omega)] at b01 pe
    rw [j_eq, jz0, pe]
    omega
  obtain ⟨w3, c3, o3, v3⟩ := m_weighs (σ := w2) (P := P) vm2 t (b := b) ha e9a hs ks hD pa hx bnd hp hq
  have O : F9 σs w3 := by
    refine ⟨fun c hc => by rw [o3.2 c (by omega), W.2 c (by omega)], by rw [o3.2 465 (by omega), W.2 465 (by omega)], by rw [o3.2 462 (by omega), W.2 462 (by omega)], by rw [o3.1, W.1], by rw [o3.2 462 (by omega), W.2 462 (by omega)]⟩
  have M3 : MR w3 (pfS S (S_fo S) (wgV (S_pl S) (fun n => decide (S_pl S 9 n = s)) (wG (S_pl S) P D a b s x))) (keep l S) := by
    refine ⟨m1.1.c (by rw [o3.2 462 (by omega), W.2 462 (by omega)]) (by rw [o3.2 464 (by omega), W.2 464 (by omega)]), ?_⟩
    have r : ∀ j, j ≠ 3 → mv (w3.1 463) j = mv (σs.1 463) j := fun j hj => by rw [v3.1 j hj, w63]
    refine m1.2.pf (fun j hj => r j (by omega)) (vm1.wg (fun j hj _ => r j hj) (fun n hn _ => ?_)) ?_
    · rw [v3.2 n hn, w63]
    · have : mo (mv (w3.1 463)) 20 = mo (mv (σs.1 463)) 20 := by
        unfold mo
        rw [r 20 (by omega), r 21 (by omega)]
      rw [this]
      exact m1.2.2.2.1
  refine ⟨w3, ?_, g1.tr O, M3⟩
  have ta : (oI (a : Int)).toInt = a := j_oI (by omega) (by omega)
  unfold fX9_drag_238
  rw [b1, j_b, f13, eidx a ha, j_nm, if_pos (j_ckn (by omega) (by decide)), if_pos (j_ckn (by omega) (by decide)), j_cl _ (by omega)]
  show nm (su σs 469 (4 * a + 2 + D) (σs.1 469 (4 * a + 2 + D) + oI x)) _ = _
  rw [← hw1, j_nm]
  have g14 : w1.1 462 14 = oI (b : Int) := by rw [hw1, su_ne (by omega)]; exact f14
  rw [g14, eidx b hb, j_nm, if_pos (j_ckn (by omega) (by decide)), if_pos (j_ckn (by omega) (by decide)), j_cl _ (by omega)]
  show nm (su w1 469 (4 * b + 2 + D) (w1.1 469 (4 * b + 2 + D) - oI x)) _ = _
  rw [← hw2, j_nm]
  have g13 : w2.1 462 13 = oI (a : Int) := by rw [W.2 462 (by omega)]; exact f13
  rw [g13, m_i1 ta (by omega), j_b, vm2.pa ha (uc a ha e9a), e9a, c3, j_b]
end RAM

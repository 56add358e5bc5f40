/-! THE RELATION: the reference's plan (16): the rectangles of a split's children -/
section MP9
variable {σ : Sg} {V : VW} {d : Nat → Nat} {wn : Nat → Int} {X Y : Nat → Bool}
theorem mqR {n D : Nat} (hn : n < 24) (hD : D ≤ 3) : mq σ (4 + D) n = (σ.1 469 (4 * n + D)).toInt := by
  rw [mq47 hn (by omega) (by omega), show 4 + D - 4 = D by omega]
/-- the part of the children that are shown -/
def kf (V P : VW) (n i : Nat) : List Nat := ((kids V n).take i).filter (fun c => decide (P 1 c = 1))
theorem kf_all {V P : VW} {n : Nat} : kf V P n (v_cc V n) = pls V P n := by
  unfold kf pls
  rw [List.take_of_length_le (by rw [kids_len]; exact Nat.le_refl _)]
theorem kf_1 {V P : VW} {n i c : Nat} (g : (kids V n)[i]? = some c) (h : P 1 c = 1) : kf V P n (i + 1) = kf V P n i ++ [c] := by
  unfold kf
  rw [take_snoc g, List.filter_append]
  congr 1
  rw [List.filter_cons_of_pos (by simp [h])]
  rfl
theorem kf_0 {V P : VW} {n i c : Nat} (g : (kids V n)[i]? = some c) (h : ¬ P 1 c = 1) : kf V P n (i + 1) = kf V P n i := by
  unfold kf
  rw [take_snoc g, List.filter_append, List.filter_cons_of_neg (by simp [h])]
  simp
theorem kf_sub {V P : VW} {n i c : Nat} (h : c ∈ kf V P n i) : c ∈ pls V P n := by
  unfold kf at h
  unfold pls
  rw [List.mem_filter] at h ⊢
  exact ⟨List.mem_of_mem_take h.1, h.2⟩
/-- one child's rectangle -/
def KR (σ σ3 : Sg) (n D : Nat) (x : Int) (c : Nat) : Prop := σ.1 469 (4 * c + D) = oI x ∧ σ.1 469 (4 * c + 2 + D) = σ3.1 470 c ∧ σ.1 469 (4 * c + 1 - D) = σ3.1 469 (4 * n + 1 - D) ∧ σ.1 469 (4 * c + 3 - D) = σ3.1 469 (4 * n + 3 - D)
theorem m_lc43 (h : VM (mv (σ.1 463)) V X) (t : Tree V d wn Y) {n D : Nat} (hn : n < 23) (k1 : V 8 n ≤ 1) (hD : D ≤ 1) {P : VW} (hP : mq σ = P) (hc : ∀ i, i < 23 → V 9 i = n → P 1 i = 0 ∨ P 1 i = 1) {g : Nat → Int} (hg : ∀ c ∈ pls V P n, (σ.1 470 c).toInt = g c) : ∃ σ', fX9_laysChildren_43 462 FU σ (nI n) (nI D) (σ.1 469 (4 * n + D)) 0 = some σ' ∧ Out σ σ' 469 469 ∧ (∀ e, (∀ c ∈ pls V P n, e < 4 * c ∨ 4 * c + 4 ≤ e) → σ'.1 469 e = σ.1 469 e) ∧ ∀ a c, (pls V P n)[a]? = some c → KR σ' σ n D ((σ.1 469 (4 * n + D)).toInt + Sm (fun x => g x + 1) ((pls V P n).take a)) c := by
  subst hP
  have cc : v_cc V n ≤ 23 := v_cc_rg V n
  have nn : ¬ n ∈ pls V (mq σ) n := fun z => by
    have := (t.pls_mem (P := mq σ) hn k1).mp z
    have := (t.par hn this.2.1).2.2.1
    omega
  have D3 : D = 0 ∨ D = 1 := by omega
  refine lp (F := fun f (s : Sg × Int32 × Int32) => fX9_laysChildren_43 462 f s.1 (nI n) (nI D) s.2.1 s.2.2) (Q := fun o => ∃ σ', o = some σ' ∧ Out σ σ' 469 469 ∧ (∀ e, (∀ c ∈ pls V (mq σ) n, e < 4 * c ∨ 4 * c + 4 ≤ e) → σ'.1 469 e = σ.1 469 e) ∧ ∀ a c, (pls V (mq σ) n)[a]? = some c → KR σ' σ n D ((σ.1 469 (4 * n + D)).toInt + Sm (fun x => g x + 1) ((pls V (mq σ) n).take a)) c) (fun i s => s.2.2 = nI i ∧ s.2.1 = oI ((σ.1 469 (4 * n + D)).toInt + Sm (fun x => g x + 1) (kf V (mq σ) n i)) ∧ Out σ s.1 469 469 ∧ (∀ e, (∀ c ∈ kf V (mq σ) n i, e < 4 * c ∨ 4 * c + 4 ≤ e) → s.1.1 469 e = σ.1 469 e) ∧ ∀ a c, (kf V (mq σ) n i)[a]? = some c → KR s.1 σ n D ((σ.1 469 (4 * n + D)).toInt + Sm (fun x => g x + 1) ((kf V (mq σ) n i).take a)) c) (v_cc V n) ?_ ?_ (v_cc V n) 0 FU (σ, σ.1 469 (4 * n + D), 0) (by omega) (by show _ < 6000; omega) ⟨rfl, by
    show σ.1 469 (4 * n + D) = oI ((σ.1 469 (4 * n + D)).toInt + 0)
    rw [Int.add_zero, j_oIt], Out.rf, fun _ _ => rfl, fun a c z => by
    have : kf V (mq σ) n 0 = [] := by unfold kf; simp
    rw [this] at z
    simp at z⟩
  · rintro f i ⟨s, l3, l⟩ hi ⟨rfl, hl3, hO, hF, hK⟩
    simp only at hl3 hO hF hK
    have e63 : s.1 463 = σ.1 463 := hO.2 463 (by omega)
    have h' : VM (mv (s.1 463)) V X := by rw [e63]; exact h
    obtain ⟨c, hc23, ec, e9, gk⟩ := m_kid h' t hn k1 hi
    have ne : c ≠ n := fun z => by
      have := (t.par hc23 e9).2.2.1
      rw [z] at this
      omega
    have nle : ¬ nI (v_cc V n) ≤ nI i := by rw [j_le, j_nI (by omega), j_nI (by omega)]; omega
    have ckc : ck (nI c) 24 := j_ckn (by omega) (by decide)
    have ecl : (nI c).toNatClampNeg = c := j_cl _ (by omega)
    have s5 : s.1 (462 + 5) (nI c).toNatClampNeg = σ.1 467 c := by
      rw [ecl]
      show s.1 467 c = _
      rw [hO.2 467 (by omega)]
    have q01 := hc c hc23 e9
    rw [mq1 (by omega)] at q01
    show ∃ s' : Sg × Int32 × Int32, _ ∧ fX9_laysChildren_43 462 (f + 1) s (nI n) (nI D) l3 (nI i) = _
    rw [fX9_laysChildren_43, m_many h' t hn, j_b, if_neg nle, ec, j_b, if_pos ckc]
    by_cases q : mq σ 1 c = 1
    · have n0 : ¬ s.1 (462 + 5) (nI c).toNatClampNeg = 0 := fun z => by
        rw [s5] at z
        rw [mq1 (by omega), z, jz0] at q
        omega
      have cpl : c ∈ pls V (mq σ) n := (t.pls_mem hn k1).mpr ⟨hc23, e9, q⟩
      have c4 : ∀ x : Nat, (4 : Int32) * nI x = nI (4 * x) := fun x => (Int32.ofNat_mul 4 x).symm
      have a1 : (4 : Int32) * nI c + nI D = nI (4 * c + D) := by rw [c4, j_a]
      have a2 : (4 : Int32) * nI c + 2 + nI D = nI (4 * c + 2 + D) := by rw [c4, show (2 : Int32) = nI 2 from rfl, j_a, j_a]
      have a3 : (4 : Int32) * nI c + 1 - nI D = nI (4 * c + 1 - D) := by rw [c4, j_s, j_sn (by omega) (by omega)]
      have a4 : (4 : Int32) * nI c + 3 - nI D = nI (4 * c + 3 - D) := by rw [c4, show (3 : Int32) = nI 3 from rfl, j_a, j_sn (by omega) (by omega)]
      have b3 : (4 : Int32) * nI n + 1 - nI D = nI (4 * n + 1 - D) := by rw [c4, j_s, j_sn (by omega) (by omega)]
      have b4 : (4 : Int32) * nI n + 3 - nI D = nI (4 * n + 3 - D) := by rw [c4, show (3 : Int32) = nI 3 from rfl, j_a, j_sn (by omega) (by omega)]
      have kk : ∀ x, x < 96 → ck (nI x) 96 := fun x hx => j_ckn hx (by decide)
      have kc : ∀ x, x < 96 → (nI x).toNatClampNeg = x := fun x hx => j_cl _ (by omega)
      rw [if_neg n0, a1, if_pos (kk _ (by omega)), j_nm, if_pos ckc, a2, if_pos (kk _ (by omega)), j_nm, b3, if_pos (kk _ (by omega)), a3, if_pos (kk _ (by omega)), j_nm, b4, if_pos (kk _ (by omega)), a4, if_pos (kk _ (by omega)), j_nm, if_pos ckc, j_nm, kc (4 * c + D) (by omega), kc (4 * c + 2 + D) (by omega), kc (4 * n + 1 - D) (by omega), kc (4 * c + 1 - D) (by omega), kc (4 * n + 3 - D) (by omega), kc (4 * c + 3 - D) (by omega), ecl]
      unfold fX9_laysChildren_166
      rw [show (462 + 7 : Nat) = 469 from rfl, show (462 + 8 : Nat) = 470 from rfl, j_s]
      have nrow : ∀ e, 4 * n ≤ e → e < 4 * n + 4 → s.1 469 e = σ.1 469 e := fun e h1 h2 => hF e (fun y hy => by
        have : y ≠ n := fun z => by
          have w := kf_sub hy
          rw [z] at w
          exact nn w
        omega)
      have r70 : ∀ e, s.1 470 e = σ.1 470 e := fun e => by rw [hO.2 470 (by omega)]
      have w2 : (su s 469 (4 * c + D) l3).1 470 c = σ.1 470 c := by rw [su_ne (by omega), r70]
      rw [w2]
      have w3 : (su (su s 469 (4 * c + D) l3) 469 (4 * c + 2 + D) (σ.1 470 c)).1 469 (4 * n + 1 - D) = σ.1 469 (4 * n + 1 - D) := by
        rw [su_at, if_neg (by omega), su_at, if_neg (by omega)]
        exact nrow _ (by omega) (by omega)
      rw [w3]
      have w4 : (su (su (su s 469 (4 * c + D) l3) 469 (4 * c + 2 + D) (σ.1 470 c)) 469 (4 * c + 1 - D) (σ.1 469 (4 * n + 1 - D))).1 469 (4 * n + 3 - D) = σ.1 469 (4 * n + 3 - D) := by
        rw [su_at, if_neg (by omega), su_at, if_neg (by omega), su_at, if_neg (by omega)]
        exact nrow _ (by omega) (by omega)
      rw [w4]
      generalize hs' : su (su (su (su s 469 (4 * c + D) l3) 469 (4 * c + 2 + D) (σ.1 470 c)) 469 (4 * c + 1 - D) (σ.1 469 (4 * n + 1 - D))) 469 (4 * c + 3 - D) (σ.1 469 (4 * n + 3 - D)) = s'
      have at' : ∀ e, s'.1 469 e = if e = 4 * c + 3 - D then σ.1 469 (4 * n + 3 - D) else if e = 4 * c + 1 - D then σ.1 469 (4 * n + 1 - D) else if e = 4 * c + 2 + D then σ.1 470 c else if e = 4 * c + D then l3 else s.1 469 e := fun e => by
        rw [← hs', su_at, su_at, su_at, su_at]
        simp only [true_and]
      have O' : Out σ s' 469 469 := by
        rw [← hs']
        exact (((hO.tr su_out).tr su_out).tr su_out).tr su_out
      have g70 : s'.1 470 c = σ.1 470 c := by rw [O'.2 470 (by omega)]
      rw [g70]
      have kf1 := kf_1 (P := mq σ) gk q
      refine ⟨(s', l3 + (σ.1 470 c + 1), nI (i + 1)), ⟨rfl, ?_, O', fun e he => ?_, fun a y gy => ?_⟩, rfl⟩
      · show l3 + (σ.1 470 c + 1) = _
        have : σ.1 470 c + 1 = oI (g c + 1) := by
          rw [← hg c cpl, ← j_oa, j_oIt]
          rfl
        rw [hl3, this, j_oa, kf1, Sm_app]
        congr 1
        show _ = _ + (_ + (g c + 1 + 0))
        omega
      · rw [kf1] at he
        have h1 := he c (List.mem_append_right _ (List.mem_singleton.mpr rfl))
        show s'.1 469 e = _
        rw [at', if_neg (by omega), if_neg (by omega), if_neg (by omega), if_neg (by omega)]
        exact hF e (fun y hy => he y (List.mem_append_left _ hy))
      · rw [kf1] at gy ⊢
        by_cases z : a < (kf V (mq σ) n i).length
        · rw [List.getElem?_append_left z] at gy
          rw [List.take_append_of_le_length (Nat.le_of_lt z)]
          obtain ⟨v1, v2, v3, v4⟩ := hK a y gy
          have yc : y ≠ c := fun u => by
            -- c stands once among the children
            subst u
            have nd := t.kids_nd hn k1
            have mem1 : y ∈ (kids V n).take i := (List.mem_filter.mp (List.mem_iff_getElem?.mpr ⟨a, gy⟩)).1
            obtain ⟨b, hb⟩ := List.mem_iff_getElem?.mp mem1
            have bi : b < i := by
              have := (List.getElem?_eq_some_iff.mp hb).1
              rw [List.length_take] at this
              omega
            rw [List.getElem?_take_of_lt bi] at hb
            have := nd_inj nd hb gk
            omega
          refine ⟨?_, ?_, ?_, ?_⟩
          · rw [at', if_neg (by omega), if_neg (by omega), if_neg (by omega), if_neg (by omega)]; exact v1
          · rw [at', if_neg (by omega), if_neg (by omega), if_neg (by omega), if_neg (by omega)]; exact v2
          · rw [at', if_neg (by omega), if_neg (by omega), if_neg (by omega), if_neg (by omega)]; exact v3
          · rw [at', if_neg (by omega), if_neg (by omega), if_neg (by omega), if_neg (by omega)]; exact v4
        · have len := (List.getElem?_eq_some_iff.mp gy).1
          rw [List.length_append, List.length_singleton] at len
          have ea : a = (kf V (mq σ) n i).length := by omega
          subst ea
          rw [List.getElem?_append_right (Nat.le_refl _), Nat.sub_self] at gy
          have yc : c = y := by simpa using gy
          subst yc
          rw [List.take_append_of_le_length (Nat.le_refl _), List.take_length]
          refine ⟨?_, ?_, ?_, ?_⟩
          · rw [at', if_neg (by omega), if_neg (by omega), if_neg (by omega), if_pos rfl]
            exact hl3
          · rw [at', if_neg (by omega), if_neg (by omega), if_pos rfl]
          · rw [at', if_neg (by omega), if_pos rfl]
          · rw [at', if_pos rfl]
    · have z0 : s.1 (462 + 5) (nI c).toNatClampNeg = 0 := by
        rw [s5]
        refine j_eq.mpr ?_
        rw [mq1 (by omega)] at q
        rw [jz0]
        omega
      rw [if_pos z0]
      unfold fX9_laysChildren_166
      rw [j_s]
      have kf0 := kf_0 (P := mq σ) gk q
      refine ⟨(s, l3, nI (i + 1)), ⟨rfl, ?_, hO, ?_, ?_⟩, rfl⟩
      · rw [kf0]; exact hl3
      · rw [kf0]; exact hF
      · rw [kf0]; exact hK
  · rintro f ⟨s, l3, l⟩ ⟨rfl, hl3, hO, hF, hK⟩
    simp only at hl3 hO hF hK
    have h' : VM (mv (s.1 463)) V X := by rw [hO.2 463 (by omega)]; exact h
    show ∃ σ', fX9_laysChildren_43 462 (f + 1) s (nI n) (nI D) l3 (nI (v_cc V n)) = _ ∧ _
    rw [fX9_laysChildren_43, m_many h' t hn, j_b, if_pos (by rw [j_le]; exact Int.le_refl _)]
    rw [kf_all] at hF hK
    exact ⟨s, rfl, hO, hF, hK⟩
/-- the cells that the reference's plan changes -/
def Fy (σ σ' : Sg) : Prop := σ'.2 = σ.2 ∧ (∀ c, c ≠ 462 → (c < 466 ∨ 471 < c) → σ'.1 c = σ.1 c) ∧ ∀ j, j ≠ 12 → σ'.1 462 j = σ.1 462 j
theorem Fy.rf : Fy σ σ := ⟨rfl, fun _ _ _ => rfl, fun _ _ => rfl⟩
theorem Fy.tr {σ1 σ2 : Sg} (h : Fy σ σ1) (h2 : Fy σ1 σ2) : Fy σ σ2 := ⟨h2.1.trans h.1, fun c a b => (h2.2.1 c a b).trans (h.2.1 c a b), fun j a => (h2.2.2 j a).trans (h.2.2 j a)⟩
theorem Fy.ou {σ1 : Sg} {lo hi : Nat} (h : Out σ σ1 lo hi) (h1 : 466 ≤ lo) (h2 : hi ≤ 471) : Fy σ σ1 := ⟨h.1, fun c _ b => h.2 c (by omega), fun j _ => by rw [h.2 462 (by omega)]⟩
theorem Fy.s12 {v : Int32} : Fy σ (su σ 462 12 v) := ⟨rfl, fun c a _ => su_ne a, fun j a => by rw [su_at, if_neg (fun z => a z.2)]⟩
theorem m_laysChildren (h : VM (mv (σ.1 463)) V X) (t : Tree V d wn Y) {n : Nat} (hn : n < 23) (k1 : V 8 n ≤ 1) (hc : ∀ i, i < 23 → V 9 i = n → mq σ 1 i = 0 ∨ mq σ 1 i = 1) (hb : ∀ c ∈ pls V (mq σ) n, 0 ≤ mq σ (2 + dr V n) c ∧ mq σ (2 + dr V n) c ≤ 965) (ne : pls V (mq σ) n ≠ []) (hE : 0 ≤ mq σ (6 + dr V n) n ∧ mq σ (6 + dr V n) n ≤ 400) : ∃ σ', fX9_laysChildren σ 462 (nI n) = some σ' ∧ Fy σ σ' ∧ (∀ j c, c < 24 → (j ≤ 3 ∨ ¬ c ∈ pls V (mq σ) n) → mq σ' j c = mq σ j c) ∧ σ'.1 466 = σ.1 466 ∧ LA V (mq σ') n := by
  obtain ⟨d1, d2⟩ := t.drs hn k1
  have en : (nI n).toInt = n := j_nI (by omega)
  have e63 : (su σ 462 12 (nI n)).1 463 = σ.1 463 := su_ne (by omega)
  have way : fX9_its (su σ 462 12 (nI n)) 462 (nI n) 2 = some (nI (dr V n)) := by
    rw [m_i2 en (by omega), e63, (h.k1 hn k1).2, d2, j_nIo _ (by omega)]
  have c4 : (4 : Int32) * nI n = nI (4 * n) := (Int32.ofNat_mul 4 n).symm
  have a2 : (4 : Int32) * nI n + 2 + nI (dr V n) = nI (4 * n + 2 + dr V n) := by rw [c4, show (2 : Int32) = nI 2 from rfl, j_a, j_a]
  have a1 : (4 : Int32) * nI n + nI (dr V n) = nI (4 * n + dr V n) := by rw [c4, j_a]
  have q0 : mq (su σ 462 12 (nI n)) = mq σ := by
    funext j c
    unfold mq
    rw [su_ne (by omega), su_ne (by omega), su_ne (by omega)]
  have eE : ((su σ 462 12 (nI n)).1 469 (4 * n + 2 + dr V n)).toInt = mq σ (6 + dr V n) n := by
    rw [su_ne (by omega), show 6 + dr V n = 4 + (2 + dr V n) by omega, mqR (by omega) (by omega), show 4 * n + (2 + dr V n) = 4 * n + 2 + dr V n by omega]
  obtain ⟨σ2, b2, o2, v2⟩ := m_laysShares (σ := su σ 462 12 (nI n)) (X := X) (by rw [e63]; exact h) t hn k1 (by rw [q0]; exact hc) (by rw [su_at, if_pos ⟨rfl, rfl⟩]) (by rw [q0]; exact hb) (by rw [q0]; exact ne) (ext := (su σ 462 12 (nI n)).1 469 (4 * n + 2 + dr V n)) (by rw [q0]; exact eE) (by rw [eE]; exact hE)
  have q2 : mq σ2 = mq σ := (mq_o7 o2).trans q0
  rw [q0] at v2
  obtain ⟨σ3, b3, o3, F3, v3⟩ := m_lc43 (σ := σ2) (X := X) (by rw [o2.2 463 (by omega), e63]; exact h) t hn k1 d1 q2 hc v2
  have mem := fun c => t.pls_mem (P := mq σ) hn k1 (c := c)
  have nn : ¬ n ∈ pls V (mq σ) n := fun z => by
    have := (mem n).mp z
    have := (t.par hn this.2.1).2.2.1
    omega
  have rows : ∀ j c, c < 24 → (j ≤ 3 ∨ ¬ c ∈ pls V (mq σ) n) → mq σ3 j c = mq σ j c := fun j c hc24 hj => by
    rw [← q2]
    unfold mq
    rw [o3.2 467 (by omega), o3.2 468 (by omega)]
    by_cases z : 4 ≤ j ∧ j ≤ 7
    · have nc : ¬ c ∈ pls V (mq σ) n := by
        rcases hj with y | y
        · omega
        · exact y
      rw [F3 (4 * c + (j - 4)) (fun y hy => by
        have : y ≠ c := fun u => by
          rw [u] at hy
          exact nc hy
        omega)]
    · simp only [if_neg z]
  refine ⟨σ3, ?_, ((Fy.s12).tr (Fy.ou o2 (by omega) (by omega))).tr (Fy.ou o3 (by omega) (by omega)), rows, ?_, ?_⟩
  · unfold fX9_laysChildren
    rw [j_nm, way, j_b, a2, if_pos (j_ckn (by omega) (by decide)), j_cl _ (by omega), show (462 + 7 : Nat) = 469 from rfl, b2, j_b, a1, if_pos (j_ckn (by omega) (by decide)), j_nm, j_cl _ (by omega)]
    exact b3
  · rw [o3.2 466 (by omega), o2.2 466 (by omega), su_ne (by omega)]
  · have ep : pls V (mq σ3) n = pls V (mq σ) n := pls_cg (fun c hc => rows 1 c (by
      have := ((t.kids_mem hn k1).mp hc).1
      omega) (Or.inl (by omega)))
    have el : lsh V (mq σ3) n = lsh V (mq σ) n := by
      unfold lsh
      rw [ep, lm_cg (f := mq σ3 (2 + dr V n)) (g := mq σ (2 + dr V n)) (fun c hc => rows _ c (by have := ((mem c).mp hc).1; omega) (Or.inl (by omega)))]
      congr 1
      unfold lrm
      rw [ep, rows _ n (by omega) (Or.inr nn)]
    intro a c ga
    rw [ep] at ga
    rw [el, ep]
    have hc' : c ∈ pls V (mq σ) n := List.mem_iff_getElem?.mpr ⟨a, ga⟩
    have c23 := ((mem c).mp hc').1
    obtain ⟨w1, w2, w3, w4⟩ := v3 a c ga
    have n69 : ∀ e, 4 * n ≤ e → e < 4 * n + 4 → σ3.1 469 e = σ2.1 469 e := fun e h1 h2 => F3 e (fun y hy => by
      have : y ≠ n := fun u => by
        rw [u] at hy
        exact nn hy
      omega)
    have r : ∀ k, k ≤ 3 → mq σ3 (4 + k) c = (σ3.1 469 (4 * c + k)).toInt := fun k hk => mqR (by omega) hk
    have rn : ∀ k, k ≤ 3 → mq σ3 (4 + k) n = (σ3.1 469 (4 * n + k)).toInt := fun k hk => mqR (by omega) hk
    refine ⟨?_, ?_, ?_, ?_⟩
    · rw [show 6 + dr V n = 4 + (2 + dr V n) by omega, r _ (by omega), show 4 * c + (2 + dr V n) = 4 * c + 2 + dr V n by omega, w2]
      exact v2 c hc'
    · rw [show 7 - dr V n = 4 + (3 - dr V n) by omega, r _ (by omega), rn _ (by omega), show 4 * c + (3 - dr V n) = 4 * c + 3 - dr V n by omega, w4, n69 _ (by omega) (by omega), show 4 * n + (3 - dr V n) = 4 * n + 3 - dr V n by omega]
    · rw [r _ (by omega), rn _ (by omega), w1, n69 _ (by omega) (by omega)]
    · rw [show 5 - dr V n = 4 + (1 - dr V n) by omega, r _ (by omega), rn _ (by omega), show 4 * c + (1 - dr V n) = 4 * c + 1 - dr V n by omega, w3, n69 _ (by omega) (by omega), show 4 * n + (1 - dr V n) = 4 * n + 1 - dr V n by omega]
end MP9

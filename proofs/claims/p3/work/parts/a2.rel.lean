/-! THE RELATION: remove, takeAway -/
section RA2
theorem LO.lv2 {o : OD} {N : Nat} {m m' : Nat → Bool} (h : LO o N m) {x : Nat} (hx : x < N) (q' : m' x = false) (hm : ∀ i, i < N → i ≠ x → m' i = m i) : LO (o_lv o x) N m' := by
  cases q : m x
  · rw [h.lv_no q]
    refine h.cg (fun i hi => ?_)
    by_cases z : i = x
    · rw [z, q, q']
    · exact hm i hi z
  · exact h.lv hx q q' hm
theorem LO.pn {o : OD} {m : Nat → Bool} (h : LO o 12 m) : Pn o := fun x hx => by
  obtain ⟨k, hk, e⟩ := ol_mem.mp hx
  obtain ⟨y, hy, -, e2⟩ := h.2.1 k (by have := h.1; omega)
  omega
theorem LO.lt {o : OD} {N : Nat} {m : Nat → Bool} (h : LO o N m) {x : Nat} (hx : x < N) : (o_lv o x).1 < N := by
  have l2 := h.lv2 (m' := fun i => m i && decide (i ≠ x)) hx (by simp) (fun i _ hi => by simp [hi])
  rw [l2.1]
  have a := cnt_one_more (c := fun i => m i && decide (i ≠ x)) (d := fun i => (m i && decide (i ≠ x)) || decide (i = x)) (n := N) hx (fun i _ hi => by simp [hi]) (by simp) (by simp)
  have b := cnt_le (fun i => (m i && decide (i ≠ x)) || decide (i = x)) N
  omega
theorem fl1_one {o : OD} {m c : Nat → Bool} {k : Nat} (h : LO o 12 m) (hk : k < 12) (hc : c k = false) (e : ∀ i, i < 12 → i ≠ k → c i = m i) : fl1 c o 12 = o_lv o k := by
  have l2 := h.lv2 hk hc e
  have key : ∀ n, n ≤ 12 → fl1 c o n = if k < n then o_lv o k else o := by
    intro n
    induction n with
    | zero => exact fun _ => by rw [if_neg (by omega)]; rfl
    | succ n ih =>
      intro hn
      have ih := ih (by omega)
      show (if c n then fl1 c o n else o_lv (fl1 c o n) n) = _
      rw [ih]
      cases q : c n
      · simp only [Bool.false_eq_true, if_false]
        by_cases z : n = k
        · subst z
          rw [if_neg (by omega), if_pos (by omega)]
        · by_cases w : k < n
          · rw [if_pos w, if_pos (by omega)]
            exact l2.lv_no q
          · rw [if_neg w, if_neg (by omega)]
            exact h.lv_no (by rw [← e n (by omega) z]; exact q)
      · simp only [if_true]
        have z : n ≠ k := fun z => by rw [z, hc] at q; cases q
        by_cases w : k < n
        · rw [if_pos w, if_pos (by omega)]
        · rw [if_neg w, if_neg (by omega)]
  rw [key 12 (by omega), if_pos hk]
def pfS (S : ST) (o : OD) (V : VW) : ST := (S.1, S.2.1, S.2.2.1, o, V, S.2.2.2.2.2)
def exS (S : ST) (m : Nat) : ST := (((m : Int), S_sv S), S.2)
theorem SM.pf {U U' : VW} {S : ST} {o : OD} {V : VW} (h : SM U S) (fs : FS U U') (hv : VM U' V (fun _ => false)) (ho : OE (mo U' 20) o) : SM U' (pfS S o V) := by
  obtain ⟨h1, h2, h3, h4⟩ := h
  refine ⟨fun p hp => ?_, hv, ho, fun s hs => ?_⟩
  · rw [fs 6 (by omega), fs 7 (by omega), fs 8 (by omega)]
    exact h1 p hp
  · rw [fs (22 + s) (by omega)]
    exact h4 s hs
theorem SI.pf {S : ST} {o : OD} {V : VW} (h : SI S) {d : Nat → Nat} {wn : Nat → Int} (hI : Inv V d wn) (hp : ∀ p, p < 12 → V 13 p ≠ -1 → exB S p = true) (ho : LO o 12 (plc V)) : SI (pfS S o V) := by
  obtain ⟨h1, h2, h3, h4, h5, h6, h7⟩ := h
  exact ⟨h1, h2, h3, hp, ⟨d, wn, hI⟩, ho, h7⟩
/-! the class's steps -/
theorem s_wd {σ : Sg} {S : ST} (hs : stv σ 1 = S) {d : Nat → Nat} {wn : Nat → Int} (hI : Inv (S_pl S) d wn) (p : Int32) : ∃ σ', fX1_withdraw σ (1 + 5) p = some σ' ∧ Out σ σ' 1 70 ∧ stv σ' 1 = pfS S (S_fo S) (v_withdraw (S_pl S) p.toInt) := by
  subst hs
  obtain ⟨i1, i2, i3, i4⟩ := hI
  have sp := i2.sp2 p.toInt
  obtain ⟨σ', a, b, c⟩ := s_withdraw (σ := σ) (b := 1 + 5) p sp.1 sp.2 (i3.ok (by decide))
  refine ⟨σ', a, b.mo (by omega) (by omega), ?_⟩
  rw [stv_pl (b := 1) b, c]
  rfl
theorem s_lv {σ : Sg} {S : ST} (hs : stv σ 1 = S) (ok : OkO (S_fo S)) (p : Int32) : ∃ σ', fX0_leave σ (1 + 3) p = some σ' ∧ Out σ σ' 1 70 ∧ stv σ' 1 = pfS S (o_lv (S_fo S) p.toInt) (S_pl S) := by
  subst hs
  obtain ⟨σ', a, b, c⟩ := s_leave (σ := σ) (c := 1 + 3) ok p
  refine ⟨σ', a, b.mo (by omega) (by omega), ?_⟩
  rw [stv_fo (b := 1) b, c]
  rfl
theorem s_dp {σ : Sg} {S : ST} (hs : stv σ 1 = S) (h : 0 ≤ S_ex S ∧ S_ex S < 4096) {p : Int32} {k : Nat} (hp : p.toInt = k) (hk : k < 12) : ∃ σ', fX4_dropPane σ 1 p = some σ' ∧ Out σ σ' 1 70 ∧ stv σ' 1 = exS S ((S_ex S).toNat &&& (4095 - 2 ^ k)) := by
  subst hs
  obtain ⟨σ', a, b, c⟩ := s_dropPane (σ := σ) (b := 1) h hp hk
  exact ⟨σ', a, b.mo (by omega) (by omega), c⟩
theorem dp_ex {S : ST} (h : 0 ≤ S_ex S ∧ S_ex S < 4096) {k j : Nat} (hk : k < 12) : exB (exS S ((S_ex S).toNat &&& (4095 - 2 ^ k))) j = (exB S j && decide (j ≠ k)) := by
  unfold exB exS
  show Nat.testBit ((((S_ex S).toNat &&& (4095 - 2 ^ k) : Nat) : Int)).toNat j = _
  rw [Int.toNat_natCast, and_bit (by omega) hk]
theorem v_wd_no {V : VW} {p : Nat} (hp : p < 12) (h : V 13 p = -1) : v_withdraw V p = V := by
  unfold v_withdraw
  rw [ga_in hp, if_pos h]
/-! the reference's steps -/
theorem m_paneSet {σ : Sg} {S : ST} (h : SM (mv (σ.1 463)) S) (hx : 0 ≤ S_ex S ∧ S_ex S < 4096) : fX9_paneSet σ 462 = some (nI (S_ex S).toNat) := by
  have z0 : ∀ p, p < 12 → (0 : Int32) <<< (nI p &&& 31) = 0 := by decide
  unfold fX9_paneSet
  refine lp (F := fun f (s : Int32 × Int32) => fX9_paneSet_4 σ 462 f s.1 s.2) (Q := fun o => o = some (nI (S_ex S).toNat)) (fun i s => s = (nI (setn (exB S) i), nI i)) 12 ?_ ?_ 12 0 FU (0, 0) rfl (by decide) rfl
  · rintro f i _ hi rfl
    have ei : (nI i).toInt = i := j_nI (by omega)
    refine ⟨_, rfl, ?_⟩
    show fX9_paneSet_4 σ 462 (f + 1) (nI (setn (exB S) i)) (nI i) = fX9_paneSet_4 σ 462 f (nI (setn (exB S) (i + 1))) (nI (i + 1))
    rw [fX9_paneSet_4, if_neg (n_ge 12 (m := 12) rfl hi (by decide)), m_o0 ei hi, j_b, (h.1 i hi).1, j_nm, j_s]
    congr 1
    show _ = nI (if exB S i then setn (exB S) i ||| 2 ^ i else setn (exB S) i)
    cases exB S i
    · simp only [Bool.false_eq_true, if_false]
      rw [show oI (0 : Int) = 0 from rfl, z0 i hi, j_0, ni_or, Nat.or_zero]
    · simp only [if_true]
      rw [show oI (1 : Int) = 1 from rfl, ni_bit i hi, ni_or]
  · rintro f _ rfl
    show fX9_paneSet_4 σ 462 (f + 1) (nI (setn (exB S) 12)) (nI 12) = _
    rw [fX9_paneSet_4, if_pos (n_le 12 (m := 12) rfl (by decide)), setn_eq (c := exB S) (m := (S_ex S).toNat) (by omega) (fun j _ => rfl)]
theorem m_size {σ : Sg} {m : Nat} (hm : m < 4096) : fX9_size σ (nI m) = some (nI (cnt (fun p => Nat.testBit m p) 12)) := by
  unfold fX9_size
  refine lp (F := fun f (s : Int32 × Int32) => fX9_size_4 σ f (nI m) s.1 s.2) (Q := fun o => o = some (nI (cnt (fun p => Nat.testBit m p) 12))) (fun i s => s = (nI (cnt (fun p => Nat.testBit m p) i), nI i)) 12 ?_ ?_ 12 0 FU (0, 0) rfl (by decide) rfl
  · rintro f i _ hi rfl
    refine ⟨_, rfl, ?_⟩
    show fX9_size_4 σ (f + 1) (nI m) (nI (cnt (fun p => Nat.testBit m p) i)) (nI i) = fX9_size_4 σ f (nI m) (nI (cnt (fun p => Nat.testBit m p) (i + 1))) (nI (i + 1))
    rw [fX9_size_4, if_neg (n_ge 12 (m := 12) rfl hi (by decide)), bt_one hm hi, j_nm, j_a, j_s]
    rfl
  · rintro f _ rfl
    show fX9_size_4 σ (f + 1) (nI m) (nI (cnt (fun p => Nat.testBit m p) 12)) (nI 12) = _
    rw [fX9_size_4, if_pos (n_le 12 (m := 12) rfl (by decide))]
/-- a pane goes, the orders follow -/
theorem m_gone {σ : Sg} {S : ST} (hS : SI S) (h : SM (mv (σ.1 463)) S) {p : Int32} {k : Nat} (hp : p.toInt = k) (hk : k < 12) : ∃ σ1 σ2, fX9_takes σ 462 p = some σ1 ∧ fX9_leavesFocus σ1 462 = some σ2 ∧ Out σ σ2 463 463 ∧ SM (mv (σ2.1 463)) (pfS S (o_lv (S_fo S) k) (v_withdraw (S_pl S) k)) := by
  obtain ⟨-, -, -, -, ⟨d, wn, hI⟩, hO, -⟩ := hS
  obtain ⟨s1, s2, s3, s4⟩ := h
  obtain ⟨σ1, a1, o1, v1, f1⟩ := m_takes s2 hI.1 hI.2.1 hI.2.2.1 hp hk
  have wd := (withdraw_ok hI hk).2
  have mo1 : mo (mv (σ1.1 463)) 20 = mo (mv (σ.1 463)) 20 := by
    unfold mo
    rw [f1 20 (by omega), f1 21 (by omega)]
  obtain ⟨σ2, a2, o2, v2, r2⟩ := m_leavesFocus (σ := σ1) (o := S_fo S) (c := plc (v_withdraw (S_pl S) k)) (fun q hq => by
    rw [v1.gr hq]
    rfl) (by rw [mo1]; exact s3) (hO.di (by decide)) hO.pn
  rw [fl1_one hO hk (by unfold plc; rw [wd.1 k hk, if_pos rfl]; rfl) (fun i hi ne => by unfold plc; rw [wd.1 i hi, if_neg ne])] at v2
  refine ⟨σ1, σ2, a1, a2, o1.tr o2, SM.pf (U := mv (σ.1 463)) ⟨s1, s2, s3, s4⟩ (f1.fs.tr (fun j hj => r2 j (by omega) (by omega))) (v1.rows (fun j hj => r2 j (by omega) (by omega))) v2⟩
theorem gone_SI {S : ST} (hS : SI S) {k : Nat} (hk : k < 12) : SI (pfS S (o_lv (S_fo S) k) (v_withdraw (S_pl S) k)) := by
  have h := hS
  obtain ⟨-, -, -, h4, ⟨d, wn, hI⟩, hO, -⟩ := h
  obtain ⟨i', wd⟩ := withdraw_ok hI hk
  refine hS.pf i' (fun p hp z => h4 p hp (fun w => z ?_)) (hO.lv2 hk (by unfold plc; rw [wd.1 k hk, if_pos rfl]; rfl) (fun i hi ne => by unfold plc; rw [wd.1 i hi, if_neg ne]))
  rw [wd.1 p hp]
  split
  · rfl
  · exact w
theorem LO.cn {S : ST} (hS : SI S) : (S_fo S).1 = cnt (plc (S_pl S)) 12 := hS.2.2.2.2.2.1.1
/-! remove -/
def reS (S : ST) (k : Nat) : ST := exS (pfS S (o_lv (S_fo S) k) (v_withdraw (S_pl S) k)) ((S_ex S).toNat &&& (4095 - 2 ^ k))
theorem reS_ex {S : ST} (h : 0 ≤ S_ex S ∧ S_ex S < 4096) {k j : Nat} (hk : k < 12) : exB (reS S k) j = (exB S j && decide (j ≠ k)) := dp_ex (S := pfS S (o_lv (S_fo S) k) (v_withdraw (S_pl S) k)) h hk
theorem reS_SI {S : ST} (hS : SI S) {k : Nat} (hk : k < 12) : SI (reS S k) := by
  obtain ⟨h1, h2, h3, h4, h5, h6, h7⟩ := gone_SI hS hk
  have ex := fun j => reS_ex hS.1 (j := j) hk
  obtain ⟨-, -, -, -, ⟨d, wn, hI⟩, -, -⟩ := hS
  have wd := (withdraw_ok hI hk).2
  refine ⟨?_, h2, fun p hp => ⟨(h3 p hp).1, (h3 p hp).2.1, fun z => (h3 p hp).2.2 ?_⟩, fun p hp z => ?_, h5, h6, h7⟩
  · have := and_lt (m := (S_ex S).toNat) (k := 4095 - 2 ^ k) (by have : 0 ≤ S_ex S ∧ S_ex S < 4096 := h1; omega)
    show (0 : Int) ≤ (((S_ex S).toNat &&& (4095 - 2 ^ k) : Nat) : Int) ∧ (((S_ex S).toNat &&& (4095 - 2 ^ k) : Nat) : Int) < 4096
    omega
  · rw [ex] at z
    simp only [Bool.and_eq_true] at z
    exact z.1
  · rw [ex]
    have : exB S p = true := h4 p hp z
    rw [this, Bool.true_and]
    refine decide_eq_true (fun w => z ?_)
    show v_withdraw (S_pl S) k 13 p = -1
    rw [wd.1 p hp, if_pos w]
theorem c_remove {σ : Sg} (h : RR σ) (p : Int32) : PI (fL_remove σ p 476 1) (fun s => fX9_remove s 462 p) := by
  obtain ⟨S, l, c, m, tx⟩ := h
  have h1 := c.1
  have hS := c.2.2.1
  have hR : RR σ := ⟨S, l, c, m, tx⟩
  cases q : exP S p
  · refine pi_no (k := 1) (b := 0) hR ?_ (by decide) ?_
    · unfold fL_remove fX8_remove
      rw [s_reqP (by rw [h1]; exact hS), h1, q]
      rfl
    · show fX9_remove σ 462 p = _
      unfold fX9_remove fX9_remove_14
      rw [m_isP m.2, j_b, q, rf1]
      rfl
  · obtain ⟨k, hk, hk12, ek⟩ := exP_n q
    obtain ⟨σ1, a1, f1, c1⟩ := s_kr c
    obtain ⟨-, -, -, -, ⟨d, wn, hI⟩, hO, -⟩ := id hS
    obtain ⟨σ2, a2, o2, v2⟩ := s_wd c1.1 hI p
    obtain ⟨σ3, a3, o3, v3⟩ := s_lv v2 (hO.ok (by decide)) p
    obtain ⟨σ4, a4, o4, v4⟩ := s_dp v3 hS.1 hk hk12
    have hv : stv σ4 1 = reS S k := by
      rw [v4]
      unfold reS pfS exS
      rw [hk]
    have o : Out σ1 σ4 1 70 := (o2.tr o3).tr o4
    obtain ⟨σ5, a5, o5, c5⟩ := c1.mod (fun x hx => o.2 x (by omega)) hv (reS_SI hS hk12)
    have ml : (S_ex S).toNat &&& (4095 - 2 ^ k) < 4096 := and_lt (by have := hS.1; omega)
    have ex5 : σ5.1 1 0 = nI ((S_ex S).toNat &&& (4095 - 2 ^ k)) := by
      rw [ex_get (σ := σ5) (b := 1) (by rw [c5.1]; exact (reS_SI hS hk12).1), c5.1]
      show nI ((((S_ex S).toNat &&& (4095 - 2 ^ k) : Nat) : Int)).toNat = _
      rw [Int.toNat_natCast]
    refine pi_ok (v := nI (cnt (fun p => Nat.testBit ((S_ex S).toNat &&& (4095 - 2 ^ k)) p) 12)) tx m ?_ (fun x hx => by rw [o5.2 x (by omega), o.2 x (by omega)]; exact f1 x hx) c5 (fun s ms => ?_)
    · unfold fL_remove fX8_remove
      rw [s_reqP (by rw [h1]; exact hS), h1, q, j_b, if_pos rfl, j_xl, a1, j_b, a2, j_b, a3, j_b, a4, j_b, a5, j_b, ex5, bt_cnt _ ml, j_b, j_b, j_xl, if_pos (by decide), j_nm]
      rfl
    · obtain ⟨s1, b1, g1, e1, m1⟩ := m_kr (ms.s3 (k := 0))
      obtain ⟨s2, s3, b2, b3, w3, sm3⟩ := m_gone hS m1.2 hk hk12
      obtain ⟨s4, b4, w4, u4⟩ := m_p0 (σ := s3) hk hk12 0
      have sm4 : SM (mv (s4.1 463)) (reS S k) := by
        obtain ⟨t1, t2, t3, t4⟩ := sm3
        rw [u4]
        refine ⟨fun i hi => ?_, t2.rows (fun j hj => mu_ne (by omega)), ?_, fun t ht => ?_⟩
        · rw [reS_ex hS.1 hk12, mu_at, mu_ne (by omega), mu_ne (by omega)]
          obtain ⟨y1, y2⟩ := t1 i hi
          by_cases z : i = k
          · rw [if_pos z, decide_eq_false (by simp [z]), Bool.and_false]
            exact ⟨rfl, fun w => by cases w⟩
          · rw [if_neg z, decide_eq_true z, Bool.and_true]
            exact ⟨y1, y2⟩
        · show OE (_, _) _
          rw [mu_ne (by omega), mu_ne (by omega)]
          exact t3
        · rw [mu_ne (by omega)]
          exact t4 t ht
      have w : Out s1 s4 463 463 := w3.tr w4
      refine ⟨s4, ?_, (G9.s3.tr g1).tr (F9.ou w), m1.mod w sm4⟩
      unfold fX9_remove fX9_remove_14
      rw [m_isP ms.2, j_b, q, if_pos rfl, rf0, j_b]
      show (fX9_saves (su s 462 3 0) 462).bind _ = _
      rw [b1, j_b, b2, j_b, b3, j_b, b4, j_b, m_paneSet sm4 (reS_SI hS hk12).1, j_b]
      have : (S_ex (reS S k)).toNat = (S_ex S).toNat &&& (4095 - 2 ^ k) := by
        show ((((S_ex S).toNat &&& (4095 - 2 ^ k) : Nat) : Int)).toNat = _
        rw [Int.toNat_natCast]
      rw [this, m_size ml, j_b]
end RA2

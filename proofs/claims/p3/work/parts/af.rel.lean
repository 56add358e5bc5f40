/-! THE RELATION: store, restore, undo -/
section RAF
theorem s_reqS {σ : Sg} (p : Int32) : fX8_requireSlot σ p = some (if decide (0 ≤ p.toInt ∧ p.toInt ≤ 2) then .inl () else .inr 0) := by
  unfold fX8_requireSlot fX8_requireSlot_9
  have e3 : (3 : Int32).toInt = 3 := rfl
  by_cases a : p < 0
  · rw [if_pos a, decide_eq_false (by rw [j_lt, jz0] at a; omega)]
    rfl
  · rw [if_neg a]
    by_cases b : p < 3
    · rw [if_pos b, decide_eq_true (by rw [j_lt, jz0] at a; rw [j_lt, e3] at b; omega)]
      rfl
    · rw [if_neg b, decide_eq_false (by rw [j_lt, e3] at b; omega)]
      rfl
theorem or_lt3 : ∀ m, m < 8 → ∀ k, k < 3 → m ||| 2 ^ k < 8 := by decide
def stoS (S : ST) (k : Nat) : ST := ((S_ex S, (((S_sv S).toNat ||| 2 ^ k : Nat) : Int)), S.2.1, S.2.2.1, S.2.2.2.1, S.2.2.2.2.1, us (S_sl S) k (S_pl S))
theorem sto_sv {S : ST} {k s : Nat} : svB (stoS S k) s = (svB S s || decide (s = k)) := by
  unfold svB stoS
  show Nat.testBit ((((S_sv S).toNat ||| 2 ^ k : Nat) : Int)).toNat s = _
  rw [Int.toNat_natCast, or_bit]
theorem sto_SI {S : ST} (h : SI S) {k : Nat} (hk : k < 3) : SI (stoS S k) := by
  obtain ⟨h1, h2, h3, h4, h5, h6, h7⟩ := h
  refine ⟨h1, ?_, h3, h4, h5, h6, fun s hs z => ?_⟩
  · have := or_lt3 (S_sv S).toNat (by omega) k hk
    show (0 : Int) ≤ (((S_sv S).toNat ||| 2 ^ k : Nat) : Int) ∧ (((S_sv S).toNat ||| 2 ^ k : Nat) : Int) < 8
    omega
  · show ∃ d wn, Inv (us (S_sl S) k (S_pl S) s) d wn
    unfold us
    by_cases q : s = k
    · rw [if_pos q]
      exact h5
    · rw [if_neg q]
      rw [sto_sv, decide_eq_false q, Bool.or_false] at z
      exact h7 s hs z
theorem m_pm_c {f g : Nat → Int32} (e : ∀ c, c < 264 → g c = f c) : m_pm (mv g) = m_pm (mv f) := by
  unfold m_pm
  refine cnt_congr (fun i hi => ?_)
  rw [mv_in (by show i < mw 9; exact hi), mv_in (by show i < mw 9; exact hi), e (ma 9 i) (by show 6 * i + (9 - 6) < 264; omega)]
theorem c_store {σ : Sg} (h : RR σ) (p : Int32) : PI (fL_store σ p 476 1) (fun s => fX9_store s 462 p) := by
  obtain ⟨S, l, c, m, tx⟩ := h
  have h1 := c.1
  have hS := c.2.2.1
  have hR : RR σ := ⟨S, l, c, m, tx⟩
  have e2 : (2 : Int32).toInt = 2 := rfl
  by_cases q : 0 ≤ p.toInt ∧ p.toInt ≤ 2
  · obtain ⟨k, hk⟩ : ∃ k : Nat, p.toInt = k := ⟨p.toInt.toNat, by omega⟩
    have hk3 : k < 3 := by omega
    obtain ⟨σ1, a1, f1, c1⟩ := s_kr c
    obtain ⟨σ2, a2, o2, v2⟩ := s_saveSlot (σ := σ1) (b := 1) (by rw [c1.1]; exact hS.2.1) hk hk3
    have hv : stv σ2 1 = stoS S k := by
      rw [v2, c1.1]
      rfl
    have c2 := c1.mod0 (fun x hx => o2.2 x (by omega)) hv (sto_SI hS hk3) (fun pl => pl)
    have sz : odv σ2 (1 + 3) = S_fo S := congrArg S_fo hv
    refine pi_ok (v := oI (S_fo S).1) tx m ?_ (fun x hx => by rw [o2.2 x (by omega)]; exact f1 x hx) c2 (fun s ms => ?_)
    · unfold fL_store fX8_store
      rw [s_reqS, decide_eq_true q, j_b, if_pos rfl, j_xl, a1, j_b, a2, j_b, s_size, sz, j_b, j_b, j_xl, if_pos (by decide), j_nm]
      rfl
    · obtain ⟨s1, b1, g1, x1, m1⟩ := m_kr (ms.s3 (k := 0))
      have ea : 264 + (219 * p) = nI (264 + 219 * k) := by
        have : p = nI k := j_eq.mpr (by rw [hk, j_nI (by omega)])
        rw [this, show (219 : Int32) * nI k = nI (219 * k) from (Int32.ofNat_mul 219 k).symm, show (264 : Int32) = nI 264 from rfl, j_a]
      have pm : ∀ s : Sg, (∀ c, c < 264 → s.1 463 c = (su s1 463 (264 + 219 * k) 1).1 463 c) → fX9_placedMany s 462 = some (oI (m_pm (mv (s1.1 463)))) := fun s hs => by
        rw [m_placedMany, m_pm_c (f := s1.1 463) (fun c hc => by
          rw [hs c hc, su_row]
          show (if c = 264 + 219 * k then _ else _) = _
          rw [if_neg (by omega)])]
      obtain ⟨s2, b2, w2, u2⟩ := m_st46 (σ := su s1 463 (264 + 219 * k) 1) (at_ := 264 + 219 * k) (by omega) pm
      rw [su_row] at u2
      obtain ⟨r1, r2, r3, r4⟩ := st_row (s1.1 463) hk3 u2
      have W : Out s1 s2 463 463 := su_out.tr w2
      have vm := m1.2.2.1
      have cn := LO.cn hS
      have pmS : (m_pm (mv (s1.1 463)) : Int) = (S_fo S).1 := by rw [vm.pm, cn]; rfl
      refine ⟨s2, ?_, (G9.s3.tr g1).tr (F9.ou W), m1.mod W ?_⟩
      · show fX9_store s 462 p = _
        unfold fX9_store fX9_store_15
        rw [m_within, jz0, e2, decide_eq_true q, j_b, if_pos rfl, rf0, j_b]
        show (fX9_saves (su s 462 3 0) 462).bind _ = _
        rw [b1, j_b, j_nm, ea, if_pos (j_ckn (by omega) (by decide)), j_nm, j_cl _ (by omega)]
        show fX9_store_46 462 FU (su s1 463 (264 + 219 * k) 1) (nI (264 + 219 * k)) (nI 0) = _
        rw [show nI 0 = (0 : Int32) from rfl, b2, pmS]
      · obtain ⟨t1, t2, t3, t4⟩ := m1.2
        refine ⟨fun i hi => ?_, t2.rows (fun j hj => r1 j (by omega)), ?_, fun t ht => ?_⟩
        · rw [r1 6 (by omega), r1 7 (by omega), r1 8 (by omega)]
          exact t1 i hi
        · show OE (_, _) _
          rw [r1 20 (by omega), r1 21 (by omega)]
          exact t3
        · rw [sto_sv]
          by_cases z : t = k
          · rw [z, r3, decide_eq_true rfl, Bool.or_true]
            refine ⟨rfl, fun _ => ?_⟩
            show VM (sr (mv (s2.1 463) (22 + k))) (us (S_sl S) k (S_pl S) k) _
            unfold us
            rw [if_pos rfl]
            obtain ⟨-, -, -, -, ⟨d, wn, hI⟩, -, -⟩ := hS
            exact t2.cg (fl4 hI.2.2.1).2 (fun j i hj hi => r4 j i hj hi)
          · rw [r2 t ht z, decide_eq_false z, Bool.or_false]
            show _ ∧ (_ → VM (sr (mv (s1.1 463) (22 + t))) (us (S_sl S) k (S_pl S) t) _)
            unfold us
            rw [if_neg z]
            exact t4 t ht
  · refine pi_no (k := 1) (b := 0) hR ?_ (by decide) ?_
    · unfold fL_store fX8_store
      rw [s_reqS, decide_eq_false q]
      rfl
    · show fX9_store σ 462 p = _
      unfold fX9_store fX9_store_15
      rw [m_within, jz0, e2, decide_eq_false q, rf1]
      rfl
/-! restore -/
theorem fc_LO {c m : Nat → Bool} {o : OD} (h : LO o 12 m) : ∀ n, n ≤ 12 → LO (fc c o n) 12 (fun i => if i < n then c i else m i) := by
  intro n
  induction n with
  | zero => exact fun _ => h.cg (fun i _ => by rw [if_neg (by omega)])
  | succ n ih =>
    intro hn
    have ih := ih (by omega)
    show LO (if c n then (if o_ix (fc c o n) n = -1 then o_pl (fc c o n) n else fc c o n) else o_lv (fc c o n) n) 12 _
    have oth : ∀ i, i < 12 → i ≠ n → (if i < n + 1 then c i else m i) = if i < n then c i else m i := fun i _ ne => by
      by_cases z : i < n
      · rw [if_pos z, if_pos (by omega)]
      · rw [if_neg z, if_neg (by omega)]
    cases q : c n
    · simp only [Bool.false_eq_true, if_false]
      exact ih.lv2 (by omega) (by rw [if_pos (by omega)]; exact q) oth
    · simp only [if_true]
      by_cases z : o_ix (fc c o n) n = -1
      · rw [if_pos z]
        exact ih.pl (by decide) (by omega) (by rw [if_pos (by omega)]; exact q) oth
      · rw [if_neg z]
        refine ih.cg (fun i hi => ?_)
        by_cases y : i = n
        · rw [y, if_pos (by omega), if_neg (by omega), q]
          cases w : m n
          · exact absurd (ih.ix_no (by rw [if_neg (by omega)]; exact w)) z
          · rfl
        · exact oth i hi y
def rsV (S : ST) (k : Nat) : VW := wds (fun q => !exB S q) (v_load (S_sl S k) (S_pl S)) 12
def rsS (S : ST) (k : Nat) : ST := pfS S (fc (plc (rsV S k)) (S_fo S) 12) (rsV S k)
theorem ld_inv {S : ST} (h : SI S) {k : Nat} (hk : k < 3) (sv : svB S k = true) : ∃ d wn, Inv (v_load (S_sl S k) (S_pl S)) d wn := by
  obtain ⟨h1, h2, h3, h4, ⟨d0, wn0, i0⟩, h6, h7⟩ := h
  obtain ⟨d, wn, i⟩ := h7 k hk sv
  have e : ∀ j, 5 ≤ j → v_load (S_sl S k) (S_pl S) j = S_sl S k j := fun j hj => by
    unfold v_load
    rw [up_ne (by omega), up_ne (by omega)]
  refine ⟨d, wn, i.rows (fun j hj => e j (by omega)) ?_ (fun w hw => ?_)⟩
  · have : odp (v_load (S_sl S k) (S_pl S)) = odp (S_sl S k) := by
      unfold odp
      rw [e 6 (by omega), e 7 (by omega)]
    rw [this]
    exact i.2.2.1
  · obtain ⟨g1, g2, g3, g4⟩ := i.2.2.2 w hw
    obtain ⟨-, -, m3, m4⟩ := i0.2.2.2 0 (by omega)
    have u3 : ∀ i, up (up (S_sl S k) 3 0 (S_pl S 3 0)) 4 0 (S_pl S 4 0) 3 i = if i = 0 then S_pl S 3 0 else S_sl S k 3 i := fun i => by
      rw [up_ne (by omega)]
      exact up3 (w := 0) (by omega) i
    have u4 : ∀ i, up (up (S_sl S k) 3 0 (S_pl S 3 0)) 4 0 (S_pl S 4 0) 4 i = if i = 0 then S_pl S 4 0 else S_sl S k 4 i := fun i => by
      have a := up4 (V := up (S_sl S k) 3 0 (S_pl S 3 0)) (w := 0) (x := S_pl S 4 0) (by omega) i
      have b : up (S_sl S k) 3 0 (S_pl S 3 0) 4 = S_sl S k 4 := up_ne (by omega)
      exact a.trans (by rw [b])
    unfold v_load
    rw [u3, u4, up_ne (by omega), up_ne (by omega), up_ne (by omega), up_ne (by omega)]
    refine ⟨g1, g2, ?_, ?_⟩
    · split <;> omega
    · split <;> omega
theorem rs_SI {S : ST} (h : SI S) {k : Nat} (hk : k < 3) (sv : svB S k = true) : SI (rsS S k) := by
  obtain ⟨d, wn, i⟩ := ld_inv h hk sv
  obtain ⟨i', w13⟩ := wds_inv (c := fun q => !exB S q) i 12 (by omega)
  have hO := h.2.2.2.2.2.1
  refine h.pf i' (fun p hp z => ?_) ((fc_LO hO 12 (by omega)).cg (fun i hi => by rw [if_pos hi]))
  cases q : exB S p
  · exact absurd (by show wds _ _ 12 13 p = -1; rw [w13 p hp, if_pos ⟨hp, by simp [q]⟩]) z
  · rfl
theorem c_restore {σ : Sg} (h : RR σ) (p : Int32) : PI (fL_restore σ p 476 1) (fun s => fX9_restore s 462 p) := by
  obtain ⟨S, l, c, m, tx⟩ := h
  have h1 := c.1
  have hS := c.2.2.1
  have hR : RR σ := ⟨S, l, c, m, tx⟩
  have e2 : (2 : Int32).toInt = 2 := rfl
  have no : ∀ (z v : Int32), z = 1 ∨ z = 2 → fX9_restore_38 462 σ v z = some (0, su σ 462 3 z) := fun z v hz => by
    unfold fX9_restore_38
    rcases hz with rfl | rfl
    · rw [rf1]; rfl
    · rw [rf2]; rfl
  by_cases q : 0 ≤ p.toInt ∧ p.toInt ≤ 2
  · obtain ⟨k, hk⟩ : ∃ k : Nat, p.toInt = k := ⟨p.toInt.toNat, by omega⟩
    have hk3 : k < 3 := by omega
    have ea : 264 + (219 * p) = nI (264 + 219 * k) := by
      have : p = nI k := j_eq.mpr (by rw [hk, j_nI (by omega)])
      rw [this, show (219 : Int32) * nI k = nI (219 * k) from (Int32.ofNat_mul 219 k).symm, show (264 : Int32) = nI 264 from rfl, j_a]
    have pre9 : ∀ s, MR s S l → fX9_restore s 462 p = if svB S k = true then fX9_restore_38 462 s (nI (264 + 219 * k)) 0 else fX9_restore_38 462 s (nI (264 + 219 * k)) 2 := fun s ms => by
      have sl := (ms.2.2.2.2 k hk3).1
      have mvs : mv (s.1 463) (22 + k) 0 = (s.1 463 (264 + 219 * k)).toInt := by
        have : k = 0 ∨ k = 1 ∨ k = 2 := by omega
        rcases this with rfl | rfl | rfl
        · rw [mv_in (by decide)]; rfl
        · rw [mv_in (by decide)]; rfl
        · rw [mv_in (by decide)]; rfl
      rw [mvs] at sl
      unfold fX9_restore
      rw [j_nm, m_within, jz0, e2, decide_eq_true q, j_b, if_pos rfl, ea, if_pos (j_ckn (by omega) (by decide)), j_cl _ (by omega)]
      show (if s.1 463 (264 + 219 * k) = 0 then _ else _) = _
      cases v : svB S k
      · rw [v] at sl
        rw [if_pos (j_eq.mpr (by rw [sl, jz0]; rfl))]
        rfl
      · rw [v] at sl
        rw [if_neg (fun z => by rw [z, jz0] at sl; simp at sl)]
        rfl
    cases sv : svB S k
    · refine pi_no (k := 2) (b := 0) hR ?_ (by decide) ?_
      · unfold fL_restore fX8_restore
        rw [s_reqS, decide_eq_true q, j_b, if_pos rfl, j_xl, s_isSaved (b := 1) (by rw [h1]; exact hS.2.1) hk hk3, h1, sv]
        rfl
      · show fX9_restore σ 462 p = _
        rw [pre9 σ m, sv]
        exact no 2 _ (Or.inr rfl)
    · obtain ⟨d, wn, hL⟩ := ld_inv hS hk3 sv
      have hO := hS.2.2.2.2.2.1
      obtain ⟨σ1, a1, f1, c1⟩ := s_kr c
      have x1 := c1.1
      obtain ⟨σ2, a2, o2, v2⟩ := s_loadSlot (σ := σ1) (b := 1) (d := d) (wn := wn) (by rw [x1]; exact hS.1) hk hk3 (by rw [x1]; exact hL) (by rw [x1]; exact hO.di (by decide)) (by rw [x1]; exact hO.pn)
      have hv : stv σ2 1 = rsS S k := by
        rw [v2, x1]
        rfl
      have hSI := rs_SI hS hk3 sv
      obtain ⟨σ3, a3, o3, c3⟩ := c1.mod (fun x hx => o2.2 x (by omega)) hv hSI
      have sz : odv σ3 (1 + 3) = fc (plc (rsV S k)) (S_fo S) 12 := congrArg S_fo c3.1
      refine pi_ok (v := oI (fc (plc (rsV S k)) (S_fo S) 12).1) tx m ?_ (fun x hx => by rw [o3.2 x (by omega), o2.2 x (by omega)]; exact f1 x hx) c3 (fun s ms => ?_)
      · unfold fL_restore fX8_restore
        rw [s_reqS, decide_eq_true q, j_b, if_pos rfl, j_xl, s_isSaved (b := 1) (by rw [h1]; exact hS.2.1) hk hk3, h1, sv, j_b, if_pos rfl, a1, j_b, a2, j_b, a3, j_b, s_size, sz, j_b, j_b, j_xl, if_pos (by decide), j_nm]
        rfl
      · obtain ⟨s1, b1, g1, x1, m1⟩ := m_kr (ms.s3 (k := 0))
        obtain ⟨s2, b2, w2, sm2⟩ := m_restore (σ := s1) hk3 m1.2 sv hL (hO.di (by decide)) hO.pn
        have sm2 : SM (mv (s2.1 463)) (rsS S k) := sm2
        have cn := LO.cn hSI
        have cn : (fc (plc (rsV S k)) (S_fo S) 12).1 = cnt (plc (rsV S k)) 12 := cn
        have pm : m_pm (mv (s2.1 463)) = cnt (plc (rsV S k)) 12 := sm2.2.1.pm
        refine ⟨s2, ?_, (G9.s3.tr g1).tr (F9.ou w2), m1.mod w2 sm2⟩
        show fX9_restore s 462 p = _
        rw [pre9 s ms, sv, if_pos rfl]
        unfold fX9_restore_38
        rw [rf0, j_b]
        show (fX9_saves (su s 462 3 0) 462).bind _ = _
        rw [b1, j_b, m_w3 (w := 0) jz0 (by omega), j_b, m_w4 (w := 0) jz0 (by omega), j_b, b2, pm, ← cn]
  · refine pi_no (k := 1) (b := 0) hR ?_ (by decide) ?_
    · unfold fL_restore fX8_restore
      rw [s_reqS, decide_eq_false q]
      rfl
    · show fX9_restore σ 462 p = _
      unfold fX9_restore
      rw [j_nm, m_within, jz0, e2, decide_eq_false q]
      exact no 1 (264 + (219 * p)) (Or.inl rfl)
/-! undo -/
theorem snoc_ex {α : Type} (l : List α) : l = [] ∨ ∃ l' a, l = l' ++ [a] := by
  cases l with
  | nil => exact Or.inl rfl
  | cons x t => exact Or.inr ⟨(x :: t).dropLast, (x :: t).getLast (by simp), (List.dropLast_concat_getLast (by simp)).symm⟩
theorem c_undo {σ : Sg} (h : RR σ) : PI (fL_undo σ 476 1) (fun s => fX9_undo s 462) := by
  obtain ⟨S, l, c, m, tx⟩ := h
  have hR : RR σ := ⟨S, l, c, m, tx⟩
  obtain ⟨h1, ⟨hd, hd5, hh, ll, hn, hr⟩, hS, hl, hP⟩ := id c
  rcases snoc_ex l with e | ⟨l', T, e⟩
  · have l0 : σ.1 0 3 = 0 := by rw [hn, e]; rfl
    refine pi_no (k := 1) (b := 0) hR ?_ (by decide) ?_
    · unfold fL_undo fX8_undo
      rw [if_pos l0]
      rfl
    · show fX9_undo σ 462 = _
      have m0 : σ.1 462 2 = 0 := by rw [m.1.2.1, e]; rfl
      unfold fX9_undo fX9_undo_13
      rw [if_pos m0, rf1]
      rfl
  · have len : l.length = l'.length + 1 := by rw [e, List.length_append]; rfl
    have l5 : l'.length < 5 := by omega
    have gT : l[l'.length]? = some T := by
      rw [e, List.getElem?_append_right (Nat.le_refl _), Nat.sub_self]
      rfl
    have sub : ∀ (k : Nat) (U : ST), l'[k]? = some U → l[k]? = some U := fun k U g => by
      rw [e, List.getElem?_append_left (List.getElem?_eq_some_iff.mp g).1]
      exact g
    have n0 : ¬ nI (l'.length + 1) = 0 := fun z => by rw [j_eq, j_nI (by omega), jz0] at z; omega
    have nm1 : nI (l'.length + 1) - 1 = nI l'.length := by
      rw [show (1 : Int32) = nI 1 from rfl, j_sn (by omega) (by omega)]
      rfl
    have SIT : SI T := hl T (by rw [e]; exact List.mem_append_right _ (List.mem_singleton.mpr rfl))
    -- the class
    have hn : σ.1 0 3 = nI (l'.length + 1) := by rw [hn, len]
    have ch1 : Ch (su σ 0 3 (nI l'.length)) l' := by
      refine ⟨hd, hd5, by rw [su_at, if_neg (by omega)]; exact hh, by omega, by rw [su_at, if_pos ⟨rfl, rfl⟩], fun k U g => ?_⟩
      have := rb_lo hd k
      rw [stv_c (fun c a b => su_ne (by omega))]
      exact hr k U (sub k U g)
    have c1 : CR (su σ 0 3 (nI l'.length)) S l' := ⟨(stv_c (fun c a b => su_ne (by omega))).trans h1, ch1, hS, fun U hU => hl U (by rw [e]; exact List.mem_append_left _ hU), hP.c (fun c a b => su_ne (by omega))⟩
    have ra := s_recordAt (σ := su σ 0 3 (nI l'.length)) (h := hd) (k := l'.length) (by rw [su_at, if_neg (by omega)]; exact hh) hd5 (by omega)
    have rl := rb_lo hd l'.length
    obtain ⟨σ2, a2, o2, v2⟩ := s_stcopy (σ := su σ 0 3 (nI l'.length)) (b := 1) (c := rb hd l'.length) (by omega)
    have hv : stv σ2 1 = T := by
      rw [v2, stv_c (fun c a b => su_ne (by omega))]
      exact hr l'.length T gT
    obtain ⟨σ3, a3, o3, c3⟩ := c1.mod (fun x hx => o2.2 x (by omega)) hv SIT
    have f3 : σ3.1 0 3 = nI l'.length := by rw [o3.2 0 (by omega), o2.2 0 (by omega), su_at, if_pos ⟨rfl, rfl⟩]
    refine pi_ok (v := nI l'.length) tx m ?_ (fun x hx => by rw [o3.2 x (by omega), o2.2 x (by omega)]; exact su_ne (by omega)) c3 (fun s ms => ?_)
    · unfold fL_undo fX8_undo
      rw [hn, if_neg n0, nm1, j_nm, su_at, if_pos ⟨rfl, rfl⟩, ra, j_b, a2, j_b, a3, j_b, f3, j_b, j_xl, if_pos (by decide), j_nm]
      rfl
    · have ms0 := ms.s3 (k := 0)
      obtain ⟨q1, q2, q3⟩ := ms0.1
      rw [len] at q2
      have e22 : (su (su s 462 3 0) 462 2 (nI l'.length)).1 462 2 = nI l'.length := by rw [su_at, if_pos ⟨rfl, rfl⟩]
      obtain ⟨s2, b2, w2, u2⟩ := m_undo33 (σ := su (su s 462 3 0) 462 2 (nI l'.length)) l5 e22
      have e4 : s2.1 464 = (su s 462 3 0).1 464 := by rw [w2.2 464 (by omega), su_ne (by omega)]
      refine ⟨s2, ?_, ?_, ⟨by omega, by rw [w2.2 462 (by omega)]; exact e22, fun k U g => ?_⟩, ?_⟩
      · show fX9_undo s 462 = _
        have sq : s.1 462 2 = nI (l'.length + 1) := by
          have : (su s 462 3 0).1 462 2 = s.1 462 2 := by rw [su_at, if_neg (by omega)]
          rw [← this]
          exact q2
        unfold fX9_undo fX9_undo_13
        rw [sq, if_neg n0, rf0, j_b]
        show nm (su (su s 462 3 0) 462 2 ((su s 462 3 0).1 462 2 - 1)) (fun σ2 => fX9_undo_33 462 FU σ2 0) = _
        rw [j_nm, q2, nm1]
        exact b2
      · refine G9.s3.tr ?_
        have fs : F9 (su s 462 3 0) (su (su s 462 3 0) 462 2 (nI l'.length)) := ⟨fun c hc => su_ne (by omega), su_ne (by omega), by rw [su_at, if_neg (by omega)], rfl, by rw [su_at, if_neg (by omega)]⟩
        exact fs.tr (F9.ou w2)
      · have : pr s2 k = pr (su s 462 3 0) k := by
          funext i
          unfold pr
          rw [e4]
        rw [this]
        exact q3 k U (sub k U g)
      · have := q3 l'.length T gT
        rw [mv_cg (f := s2.1 463) (g := pr (su s 462 3 0) l'.length) (fun i hi => by
          rw [u2 i hi, su_ne (by omega)]
          rfl)]
        exact this
end RAF

/-! THE RELATION: the class's Sharing is share (2) -/
theorem s_fill (σ : Sg) (c n : Nat) (p : Int32) (hn : n < 5000) : ∃ σ', fJ7_fill_53178 σ c n p = some σ' ∧ Out σ σ' c c ∧ ∀ i, i < n → σ'.1 c i = p := by
  unfold fJ7_fill_53178
  rw [j_nm]
  refine lp (F := fun m (s : Sg × Int32) => fJ7_fill_53178_5 c n m s.1 p s.2 (nI n)) (Q := fun o => ∃ σ', o = some σ' ∧ Out σ σ' c c ∧ ∀ i, i < n → σ'.1 c i = p) (fun k s => s.2 = nI k ∧ Out σ s.1 c c ∧ ∀ i, i < k → s.1.1 c i = p) n ?_ ?_ n 0 FU (σ, 0) (by omega) (by show n < 6000; omega) ⟨rfl, Out.rf, fun i hi => absurd hi (by omega)⟩
  · rintro m k ⟨s, l⟩ hk ⟨rfl, ho, hv⟩
    simp only at ho hv
    show ∃ s' : Sg × Int32, _ ∧ fJ7_fill_53178_5 c n (m + 1) s p (nI k) (nI n) = _
    rw [fJ7_fill_53178_5, if_neg (by rw [j_le, j_nI (by omega), j_nI (by omega)]; omega), if_pos (j_ckn hk (by omega)), j_nm, j_cl _ (by omega), j_s]
    refine ⟨(_, nI (k + 1)), ⟨rfl, ho.tr su_out, fun i hi => ?_⟩, rfl⟩
    show (su s c k p).1 c i = p
    rw [su_at]
    by_cases q : i = k
    · rw [if_pos ⟨rfl, q⟩]
    · rw [if_neg (fun z => q z.2), hv i (by omega)]
  · rintro m ⟨s, l⟩ ⟨rfl, ho, hv⟩
    simp only at ho hv
    show ∃ σ', fJ7_fill_53178_5 c n (m + 1) s p (nI n) (nI n) = _ ∧ _
    rw [fJ7_fill_53178_5, if_pos (by rw [j_le]; exact Int.le_refl _)]
    exact ⟨s, rfl, ho, hv⟩
section SH2
variable {σ : Sg} {pl : List Nat} {room : Int} {m w : Nat → Int}
theorem xc_rg (x : XB pl m w) (hs : Sm m pl < room) (op : Nat → Bool) : 0 ≤ xc pl m op ∧ 0 < room - xc pl m op := by
  have lo := xc_lt hs op
  have l1 : 0 ≤ Sm (fun c => if op c then m c else 0) pl := Sm_nn (fun c hc => by
    show 0 ≤ if op c then m c else 0
    have := x.1.2.1 c hc
    split <;> omega)
  refine ⟨Sm_nn (fun c hc => ?_), by omega⟩
  show 0 ≤ if op c then 0 else m c
  have := x.1.2.1 c hc
  split <;> omega
theorem xq_rg (x : XB pl m w) (h0 : 0 ≤ room ∧ room ≤ 400) (hs : Sm m pl < room) {op : Nat → Bool} {c : Nat} (hc : c ∈ pl) (oc : op c = true) : 0 ≤ xq pl room m w op c ∧ xq pl room m w op c ≤ 400 := by
  obtain ⟨c0, c1⟩ := xc_rg x hs op
  have wp := xw_pos x.1 hc oc
  have wc := x.1.2.2 c hc
  have wle : w c ≤ xw pl w op := by
    have := Sm_mem (f := fun c => if op c then w c else 0) (l := pl) (fun c hc => by
      show 0 ≤ if op c then w c else 0
      have := x.1.2.2 c hc
      split <;> omega) hc
    simp only [oc, if_true] at this
    exact this
  refine ⟨Int.ediv_nonneg (Int.mul_nonneg (by omega) (by omega)) (by omega), ?_⟩
  have : xq pl room m w op c ≤ room - xc pl m op := by
    refine Int.ediv_le_of_le_mul (by omega) ?_
    exact Int.mul_le_mul_of_nonneg_left wle (by omega)
  omega
theorem s_closeSmall (h : SI0 σ pl m w) (x : XB pl m w) (h0 : 0 ≤ room ∧ room ≤ 400) (hs : Sm m pl < room) {op : Nat → Bool} (ho1 : 1 ≤ xn pl op) (hso : SO σ pl m op) : ∃ σ', fX3_closeSmallShares σ 432 (oI room) = some (xa pl op (xo pl room m w op), σ') ∧ Out σ σ' 435 437 ∧ SO σ' pl m (xo pl room m w op) ∧ ∀ k c, pl[k]? = some c → xo pl room m w op c = true → (σ'.1 435 k).toInt = xq pl room m w op c ∧ (σ'.1 437 k).toInt = xr pl room m w op c := by
  have len := x.2.1
  have sub : ∀ k c, c ∈ pl.take k → c ∈ pl := fun k c hc => take_mem hc
  have cB : ∀ k, 0 ≤ Sm (fun c => if op c then 0 else m c) (pl.take k) ∧ Sm (fun c => if op c then 0 else m c) (pl.take k) ≤ 965 * 23 := fun k => by
    have a := Sm_up (f := fun c => if op c then 0 else m c) (B := 965) (l := pl.take k) (fun c hc => by
      show (if op c then 0 else m c) ≤ 965
      have := x.2.2.1 c (sub k c hc)
      split <;> omega)
    have b : (pl.take k).length ≤ 23 := by rw [List.length_take]; omega
    refine ⟨Sm_nn (fun c hc => ?_), by omega⟩
    show 0 ≤ if op c then 0 else m c
    have := x.1.2.1 c (sub k c hc)
    split <;> omega
  have wB : ∀ k, 0 ≤ Sm (fun c => if op c then w c else 0) (pl.take k) ∧ Sm (fun c => if op c then w c else 0) (pl.take k) ≤ 1000000 * 23 := fun k => by
    have a := Sm_up (f := fun c => if op c then w c else 0) (B := 1000000) (l := pl.take k) (fun c hc => by
      show (if op c then w c else 0) ≤ 1000000
      have := x.2.2.2 c (sub k c hc)
      split <;> omega)
    have b : (pl.take k).length ≤ 23 := by rw [List.length_take]; omega
    refine ⟨Sm_nn (fun c hc => ?_), by omega⟩
    show 0 ≤ if op c then w c else 0
    have := x.1.2.2 c (sub k c hc)
    split <;> omega
  unfold fX3_closeSmallShares
  rw [j_nm]
  refine lp (F := fun n (s : Int64 × Int64 × Int32) => fX3_closeSmallShares_9 432 n σ s.1 s.2.1 s.2.2) (Q := fun o => ∃ σ', o = some (xa pl op (xo pl room m w op), σ') ∧ Out σ σ' 435 437 ∧ SO σ' pl m (xo pl room m w op) ∧ ∀ k c, pl[k]? = some c → xo pl room m w op c = true → (σ'.1 435 k).toInt = xq pl room m w op c ∧ (σ'.1 437 k).toInt = xr pl room m w op c) (fun k s => s.1.toInt = room - Sm (fun c => if op c then 0 else m c) (pl.take k) ∧ s.2.1.toInt = Sm (fun c => if op c then w c else 0) (pl.take k) ∧ s.2.2 = nI k) pl.length ?_ ?_ pl.length 0 FU ((oI room).toInt64, 0, 0) (by omega) (by show _ < 6000; omega) ⟨by
    show (oI room).toInt64.toInt = room - 0
    rw [k_64, j_oI (by omega) (by omega)]
    omega, rfl, rfl⟩
  · rintro n k ⟨a, b, l⟩ hk ⟨ha, hb, rfl⟩
    simp only at ha hb
    obtain ⟨c5, r3, r4⟩ := h
    have gi := List.getElem?_eq_getElem hk
    generalize pl[k] = c at gi
    have hc : c ∈ pl := List.mem_iff_getElem?.mpr ⟨k, gi⟩
    have mc := r3 k c gi
    have wc := r4 k c gi
    have f6 : (σ.1 436 k).toInt = if op c then 1 else 0 := hso.1 k c gi
    have tk := take_snoc gi
    have cb := cB k
    have wb := wB k
    have m0 := x.1.2.1 c hc
    have mB := x.2.2.1 c hc
    have w0 := x.1.2.2 c hc
    have wB := x.2.2.2 c hc
    have e1 : Sm (fun c => if op c then 0 else m c) (pl.take (k + 1)) = Sm (fun c => if op c then 0 else m c) (pl.take k) + (if op c then 0 else m c) := by
      rw [tk, Sm_app]
      show _ + ((if op c then 0 else m c) + 0) = _
      omega
    have e2 : Sm (fun c => if op c then w c else 0) (pl.take (k + 1)) = Sm (fun c => if op c then w c else 0) (pl.take k) + (if op c then w c else 0) := by
      rw [tk, Sm_app]
      show _ + ((if op c then w c else 0) + 0) = _
      omega
    show ∃ s' : Int64 × Int64 × Int32, _ ∧ fX3_closeSmallShares_9 432 (n + 1) σ a b (nI k) = _
    rw [fX3_closeSmallShares_9, c5, if_neg (by rw [j_le, j_nI (by omega), j_nI (by omega)]; omega), show (432 + 4 : Nat) = 436 from rfl, s_atn (by decide) (by omega), j_b]
    cases oc : op c
    · rw [oc] at f6 e1 e2
      have f6 : (σ.1 436 k).toInt = 0 := f6
      have nf : ¬ σ.1 436 k = 1 := fun z => by rw [j_eq, f6, jz1] at z; omega
      simp only [Bool.false_eq_true, if_false] at e1 e2
      rw [if_neg nf, show (432 + 1 : Nat) = 433 from rfl, s_atn (by decide) (by omega), j_b]
      unfold fX3_closeSmallShares_46
      rw [j_nm, show (432 + 4 : Nat) = 436 from rfl, s_atn (by decide) (by omega), j_b, if_neg nf]
      unfold fX3_closeSmallShares_77
      rw [j_nm, j_s]
      refine ⟨(_, _, nI (k + 1)), ⟨?_, ?_, rfl⟩, rfl⟩
      · show (a - (σ.1 433 k).toInt64).toInt = _
        rw [k_sub (by rw [k_64, ha, mc]; omega) (by rw [k_64, ha, mc]; omega), k_64, ha, mc, e1]
        omega
      · show (b + 0).toInt = _
        rw [k_add (by rw [kz0, hb]; omega) (by rw [kz0, hb]; omega), kz0, hb, e2]
    · rw [oc] at f6 e1 e2
      have f6 : (σ.1 436 k).toInt = 1 := f6
      have pf : σ.1 436 k = 1 := j_eq.mpr (by rw [f6, jz1])
      simp only [if_true] at e1 e2
      rw [if_pos pf]
      unfold fX3_closeSmallShares_46
      rw [j_nm, show (432 + 4 : Nat) = 436 from rfl, s_atn (by decide) (by omega), j_b, if_pos pf, show (432 + 2 : Nat) = 434 from rfl, s_atn (by decide) (by omega), j_b]
      unfold fX3_closeSmallShares_77
      rw [j_nm, j_s]
      refine ⟨(_, _, nI (k + 1)), ⟨?_, ?_, rfl⟩, rfl⟩
      · show (a - 0).toInt = _
        rw [k_sub (by rw [kz0, ha]; omega) (by rw [kz0, ha]; omega), kz0, ha, e1]
        omega
      · show (b + (σ.1 434 k).toInt64).toInt = _
        rw [k_add (by rw [k_64, hb, wc]; omega) (by rw [k_64, hb, wc]; omega), k_64, hb, wc, e2]
  · rintro n ⟨a, b, l⟩ ⟨ha, hb, rfl⟩
    simp only at ha hb
    rw [List.take_length] at ha hb
    show ∃ σ', fX3_closeSmallShares_9 432 (n + 1) σ a b (nI pl.length) = _ ∧ _
    rw [fX3_closeSmallShares_9, h.1, if_pos (by rw [j_le]; exact Int.le_refl _)]
    exact s_close92 h x h0 hs ho1 hso ha hb
/-- the pick -/
theorem s_pick {op op' : Nat → Bool} {r : Nat → Int} (h5 : σ.1 432 5 = nI pl.length) (nd : pl.Nodup) (len : pl.length ≤ 23) (f6 : rv (σ.1 436) pl (fun c => if op c then 1 else 0)) (sub : ∀ c, op' c = true → op c = true) (rr : ∀ c ∈ pl, op c = true → -1 ≤ r c) (f7 : ∀ k c, pl[k]? = some c → op c = true → (σ.1 437 k).toInt = if op' c then r c else -1) (ex : ∃ c ∈ pl, op' c = true ∧ -1 < r c) (K : Sg → Int32 → Int32 → Option Sg) (l2 l3 : Int32) : ∃ k c, pl[k]? = some c ∧ op' c = true ∧ xp r op' pl (-1) (-1) = c ∧ fX3_giveRest_50 432 K FU σ l2 l3 (-1) 0 = K (su (su σ 435 k (σ.1 435 k + 1)) 437 k (-1)) l2 (l3 + 1) := by
  refine lp (F := fun n (s : Int32 × Int32) => fX3_giveRest_50 432 K n σ l2 l3 s.1 s.2) (Q := fun o => ∃ k c, pl[k]? = some c ∧ op' c = true ∧ xp r op' pl (-1) (-1) = c ∧ o = K (su (su σ 435 k (σ.1 435 k + 1)) 437 k (-1)) l2 (l3 + 1)) (fun i s => s.2 = nI i ∧ ∃ b v, xp r op' pl (-1) (-1) = xp r op' (pl.drop i) b v ∧ ((s.1 = -1 ∧ b = -1 ∧ v = -1) ∨ ∃ (k c : Nat), pl[k]? = some c ∧ s.1 = nI k ∧ b = c ∧ v = r c ∧ op' c = true)) pl.length ?_ ?_ pl.length 0 FU (-1, 0) (by omega) (by show _ < 6000; omega) ⟨rfl, -1, -1, rfl, Or.inl ⟨rfl, rfl, rfl⟩⟩
  · rintro n i ⟨a, l⟩ hi ⟨rfl, b, v, e, hb⟩
    simp only at hb
    have gi := List.getElem?_eq_getElem hi
    have dk := List.drop_eq_getElem_cons hi
    generalize pl[i] = c at gi dk
    have hc : c ∈ pl := List.mem_iff_getElem?.mpr ⟨i, gi⟩
    have s6 : (σ.1 436 i).toInt = if op c then 1 else 0 := f6 i c gi
    have xpu : xp r op' (pl.drop i) b v = if op' c && decide (v < r c) then xp r op' (pl.drop (i + 1)) c (r c) else xp r op' (pl.drop (i + 1)) b v := by
      rw [dk]
      rfl
    have at4 : (oI (ga (fun j => (σ.1 437 j).toInt) 23 a.toInt)).toInt = v := by
      rcases hb with ⟨rfl, -, rfl⟩ | ⟨k, c', gk, rfl, -, rfl, oc'⟩
      · rfl
      · have k23 : k < 23 := by
          have := (List.getElem?_eq_some_iff.mp gk).1
          omega
        rw [j_nI (by omega), ga_in k23, j_oIt, f7 k c' gk (sub c' oc'), if_pos oc']
    show ∃ s' : Int32 × Int32, _ ∧ fX3_giveRest_50 432 K (n + 1) σ l2 l3 a (nI i) = _
    have nle : ¬ nI pl.length ≤ nI i := by rw [j_le, j_nI (by omega), j_nI (by omega)]; omega
    rw [fX3_giveRest_50, h5, if_neg nle, show (432 + 4 : Nat) = 436 from rfl, s_atn (by decide) (by omega), j_b]
    cases oc : op c
    · have o' : op' c = false := by
        cases z : op' c
        · rfl
        · rw [sub c z] at oc
          cases oc
      rw [oc] at s6
      have s6 : (σ.1 436 i).toInt = 0 := s6
      have nf : ¬ σ.1 436 i = 1 := fun z => by rw [j_eq, s6, jz1] at z; omega
      rw [if_neg nf]
      unfold fX3_giveRest_97
      rw [j_s]
      refine ⟨(a, nI (i + 1)), ⟨rfl, b, v, ?_, hb⟩, rfl⟩
      rw [e, xpu, o', Bool.false_and, if_neg (by decide)]
    · rw [oc] at s6
      have s6 : (σ.1 436 i).toInt = 1 := s6
      have s7 := f7 i c gi oc
      have pf : σ.1 436 i = 1 := j_eq.mpr (by rw [s6, jz1])
      rw [if_pos pf, show (432 + 5 : Nat) = 437 from rfl, s_atn (by decide) (by omega), j_b, s_at (by decide), j_b]
      have vlo : -1 ≤ v := by
        rcases hb with ⟨-, -, rfl⟩ | ⟨k, c', gk, -, -, rfl, oc'⟩
        · exact Int.le_refl _
        · exact rr c' (List.mem_iff_getElem?.mpr ⟨k, gk⟩) (sub c' oc')
      by_cases q : (op' c && decide (v < r c)) = true
      · have q' := q
        simp only [Bool.and_eq_true, decide_eq_true_eq] at q'
        rw [if_pos q'.1] at s7
        have nq : ¬ σ.1 437 i ≤ oI (ga (fun j => (σ.1 437 j).toInt) 23 a.toInt) := by rw [j_le, at4, s7]; omega
        rw [if_neg nq]
        unfold fX3_giveRest_97
        rw [j_s]
        refine ⟨(nI i, nI (i + 1)), ⟨rfl, c, r c, ?_, Or.inr ⟨i, c, gi, rfl, rfl, rfl, q'.1⟩⟩, rfl⟩
        rw [e, xpu, if_pos q]
      · have pq : σ.1 437 i ≤ oI (ga (fun j => (σ.1 437 j).toInt) 23 a.toInt) := by
          rw [j_le, at4, s7]
          cases o' : op' c
          · rw [if_neg (by decide)]
            exact vlo
          · rw [if_pos rfl]
            rw [o', Bool.true_and, decide_eq_true_eq] at q
            omega
        rw [if_pos pq]
        unfold fX3_giveRest_97
        rw [j_s]
        refine ⟨(a, nI (i + 1)), ⟨rfl, b, v, ?_, hb⟩, rfl⟩
        rw [e, xpu, if_neg q]
  · rintro n ⟨a, l⟩ ⟨rfl, b, v, e, hb⟩
    simp only at hb
    rw [List.drop_length] at e
    have e : xp r op' pl (-1) (-1) = b := e
    obtain ⟨y, hy, oy, ey⟩ := xp_in (r := r) (op := op') pl (-1) (-1) ex
    rcases hb with ⟨-, rfl, -⟩ | ⟨k, c, gk, rfl, rfl, -, oc⟩
    · omega
    · have k23 : k < 23 := by
        have := (List.getElem?_eq_some_iff.mp gk).1
        omega
      refine ⟨k, c, gk, oc, e, ?_⟩
      show fX3_giveRest_50 432 K (n + 1) σ l2 l3 (nI k) (nI pl.length) = _
      rw [fX3_giveRest_50, h5, if_pos (by rw [j_le]; exact Int.le_refl _), show (432 + 3 : Nat) = 435 from rfl, s_atn (by decide) k23, j_b, s_putn (by decide) k23, j_b, show (432 + 5 : Nat) = 437 from rfl, s_putn (by decide) k23, j_b]
theorem xn_rm {op : Nat → Bool} {c : Nat} (nd : pl.Nodup) (hc : c ∈ pl) (oc : op c = true) : xn pl (fun z => op z && !decide (z = c)) = xn pl op - 1 := by
  have := Sm_one (f := fun c => if op c then (1 : Int) else 0) (g := fun z => if (op z && !decide (z = c)) then (1 : Int) else 0) nd hc (fun z _ ne => by
    show (if op z = true then (1 : Int) else 0) = if (op z && !decide (z = c)) = true then 1 else 0
    rw [decide_eq_false ne]
    simp)
  simp only [oc, decide_true, Bool.not_true, Bool.and_false, if_true] at this
  unfold xn
  rw [this]
  simp
  omega
theorem get_uniq {l : List Nat} (nd : l.Nodup) {i k c z : Nat} (gi : l[i]? = some z) (gk : l[k]? = some c) : z = c ↔ i = k := by
  constructor
  · intro q
    subst q
    exact nd_inj nd gi gk
  · intro q
    subst q
    exact Option.some.inj (gi.symm.trans gk)
theorem s_giveRest (h : SI0 σ pl m w) (x : XB pl m w) (h0 : 0 ≤ room ∧ room ≤ 400) (hs : Sm m pl < room) {op : Nat → Bool} (ho1 : 1 ≤ xn pl op) (f6 : rv (σ.1 436) pl (fun c => if op c then 1 else 0)) (f5 : rv (σ.1 435) pl (xe pl room m w op)) (f7 : ∀ k c, pl[k]? = some c → op c = true → (σ.1 437 k).toInt = xr pl room m w op c) : ∃ σ', fX3_giveRest σ 432 (oI room) = some σ' ∧ Out σ σ' 435 437 ∧ rv (σ'.1 435) pl (xs pl (xr pl room m w op) (room - Sm (xe pl room m w op) pl).toNat op (xe pl room m w op)) := by
  have nd := x.1.1
  have len := x.2.1
  obtain ⟨y, hy, ey⟩ := xn_ex ho1
  have wp := xw_pos x.1 hy ey
  obtain ⟨r1, r2⟩ := xe_rest x.1 ho1 hs
  have xl := (xn_le op pl).2
  have xeB : ∀ c ∈ pl, 0 ≤ xe pl room m w op c ∧ xe pl room m w op c ≤ 965 := fun c hc => by
    unfold xe
    cases oc : op c
    · have := x.1.2.1 c hc
      have := x.2.2.1 c hc
      simp only [Bool.false_eq_true, if_false]
      omega
    · have := xq_rg x h0 hs hc oc
      simp only [if_true]
      omega
  have smB : ∀ k, 0 ≤ Sm (xe pl room m w op) (pl.take k) ∧ Sm (xe pl room m w op) (pl.take k) ≤ 965 * 23 := fun k => by
    have a := Sm_up (f := xe pl room m w op) (B := 965) (l := pl.take k) (fun c hc => (xeB c (take_mem hc)).2)
    have b : (pl.take k).length ≤ 23 := by rw [List.length_take]; omega
    exact ⟨Sm_nn (fun c hc => (xeB c (take_mem hc)).1), by omega⟩
  have rr : ∀ c ∈ pl, 0 ≤ xr pl room m w op c := fun c _ => Int.emod_nonneg _ (by omega)
  generalize hR : (room - Sm (xe pl room m w op) pl).toNat = R
  have eR : (R : Int) = room - Sm (xe pl room m w op) pl := by omega
  -- the outer loop
  have outer : ∃ σ', fX3_giveRest_31 432 FU σ (nI R) 0 = some σ' ∧ Out σ σ' 435 437 ∧ rv (σ'.1 435) pl (xs pl (xr pl room m w op) R op (xe pl room m w op)) := by
    refine lp (F := fun n (s : Sg × Int32) => fX3_giveRest_31 432 n s.1 (nI R) s.2) (Q := fun o => ∃ σ', o = some σ' ∧ Out σ σ' 435 437 ∧ rv (σ'.1 435) pl (xs pl (xr pl room m w op) R op (xe pl room m w op))) (fun i s => s.2 = nI i ∧ Out σ s.1 435 437 ∧ s.1.1 436 = σ.1 436 ∧ ∃ op' sh, rv (s.1.1 435) pl sh ∧ (∀ c ∈ pl, 0 ≤ sh c ∧ sh c ≤ 965 + i) ∧ (∀ k c, pl[k]? = some c → op c = true → (s.1.1 437 k).toInt = if op' c then xr pl room m w op c else -1) ∧ (∀ c, op' c = true → op c = true) ∧ (R : Int) - i ≤ xn pl op' ∧ xs pl (xr pl room m w op) R op (xe pl room m w op) = xs pl (xr pl room m w op) (R - i) op' sh) R ?_ ?_ R 0 FU (σ, 0) (by omega) (by show R < 6000; omega) ⟨rfl, Out.rf, rfl, op, xe pl room m w op, f5, fun c hc => by have := xeB c hc; omega, fun k c gk oc => by rw [if_pos oc]; exact f7 k c gk oc, fun c z => z, by omega, rfl⟩
    · rintro n i ⟨s, l⟩ hi ⟨rfl, ho, h6, op', sh, h5, hB, h7, sub, hx, hxs⟩
      simp only at ho h6 h5 h7
      have S0 := h.out ho
      obtain ⟨z, hz, oz⟩ := xn_ex (pl := pl) (op := op') (by omega)
      obtain ⟨k, c, gk, oc, ec, hp⟩ := s_pick (σ := s) (op := op) (op' := op') (r := xr pl room m w op) S0.1 nd len (by rw [h6]; exact f6) sub (fun c hc _ => by have := rr c hc; omega) h7 ⟨z, hz, oz, by have := rr z hz; omega⟩ (fX3_giveRest_31 432 n) (nI R) (nI i)
      have hc : c ∈ pl := List.mem_iff_getElem?.mpr ⟨k, gk⟩
      show ∃ s' : Sg × Int32, _ ∧ fX3_giveRest_31 432 (n + 1) s (nI R) (nI i) = _
      rw [fX3_giveRest_31, if_neg (by rw [j_le, j_nI (by omega), j_nI (by omega)]; omega), S0.1, if_neg (by rw [j_le, j_nI (by omega), j_nI (by omega)]; omega), hp, j_s]
      have add : (s.1 435 k + 1).toInt = sh c + 1 := by
        have := hB c hc
        rw [j_add (by rw [h5 k c gk, jz1]; omega) (by rw [h5 k c gk, jz1]; omega), h5 k c gk, jz1]
      refine ⟨(_, nI (i + 1)), ⟨rfl, (ho.tr (su_out.mo (by omega) (by omega))).tr (su_out.mo (by omega) (by omega)), ?_, fun z => op' z && !decide (z = c), fun z => if z = c then sh z + 1 else sh z, ?_, fun z hz => ?_, fun j z gz oz => ?_, fun z hz => ?_, ?_, ?_⟩, rfl⟩
      · show (su (su s 435 k _) 437 k (-1)).1 436 = _
        rw [su_ne (by omega), su_ne (by omega), h6]
      · show rv ((su (su s 435 k (s.1 435 k + 1)) 437 k (-1)).1 435) pl _
        rw [su_ne (by omega)]
        exact rv_su nd h5 gk (by rw [if_pos rfl, add]) (fun x ne => if_neg ne)
      · have := hB z hz
        show 0 ≤ (if z = c then sh z + 1 else sh z) ∧ (if z = c then sh z + 1 else sh z) ≤ 965 + ((i + 1 : Nat) : Int)
        split <;> omega
      · show ((su (su s 435 k (s.1 435 k + 1)) 437 k (-1)).1 437 j).toInt = _
        rw [su_at]
        by_cases q : j = k
        · rw [if_pos ⟨rfl, q⟩]
          have := (get_uniq nd gz gk).mpr q
          subst this
          simp
        · rw [if_neg (fun u => q u.2), su_at, if_neg (by omega), h7 j z gz oz]
          have : z ≠ c := fun u => q ((get_uniq nd gz gk).mp u)
          simp [this]
      · simp only [Bool.and_eq_true] at hz
        exact sub z hz.1
      · rw [xn_rm nd hc oc]
        omega
      · rw [hxs]
        obtain ⟨q, hq⟩ : ∃ q, R - i = q + 1 := ⟨R - i - 1, by omega⟩
        have hq2 : R - (i + 1) = q := by omega
        rw [hq, hq2]
        show xs pl _ q (fun z => op' z && !decide (z = (xp _ op' pl (-1) (-1)).toNat)) (fun z => if z = (xp _ op' pl (-1) (-1)).toNat then sh z + 1 else sh z) = _
        rw [ec]
        rfl
    · rintro n ⟨s, l⟩ ⟨rfl, ho, h6, op', sh, h5, hB, h7, sub, hx, hxs⟩
      simp only at ho h6 h5 h7
      show ∃ σ', fX3_giveRest_31 432 (n + 1) s (nI R) (nI R) = _ ∧ _
      rw [fX3_giveRest_31, if_pos (by rw [j_le]; exact Int.le_refl _)]
      refine ⟨s, rfl, ho, ?_⟩
      rw [hxs, Nat.sub_self]
      exact h5
  unfold fX3_giveRest
  refine lp (F := fun n (s : Int32 × Int32) => fX3_giveRest_4 432 n σ s.1 s.2) (Q := fun o => ∃ σ', o = some σ' ∧ Out σ σ' 435 437 ∧ rv (σ'.1 435) pl (xs pl (xr pl room m w op) R op (xe pl room m w op))) (fun k s => s.1.toInt = room - Sm (xe pl room m w op) (pl.take k) ∧ s.2 = nI k) pl.length ?_ ?_ pl.length 0 FU (oI room, 0) (by omega) (by show _ < 6000; omega) ⟨by
    show (oI room).toInt = room - 0
    rw [j_oI (by omega) (by omega)]
    omega, rfl⟩
  · rintro n k ⟨a, l⟩ hk ⟨ha, rfl⟩
    simp only at ha
    have gi := List.getElem?_eq_getElem hk
    generalize pl[k] = c at gi
    have hc : c ∈ pl := List.mem_iff_getElem?.mpr ⟨k, gi⟩
    have v5 := f5 k c gi
    have := xeB c hc
    have := smB k
    show ∃ s' : Int32 × Int32, _ ∧ fX3_giveRest_4 432 (n + 1) σ a (nI k) = _
    rw [fX3_giveRest_4, h.1, if_neg (by rw [j_le, j_nI (by omega), j_nI (by omega)]; omega), show (432 + 3 : Nat) = 435 from rfl, s_atn (by decide) (by omega), j_b, j_nm, j_s]
    refine ⟨(_, nI (k + 1)), ⟨?_, rfl⟩, rfl⟩
    show (a - σ.1 435 k).toInt = _
    rw [j_sub (by rw [ha, v5]; omega) (by rw [ha, v5]; omega), ha, v5, take_snoc gi, Sm_app]
    show _ = room - (_ + (xe pl room m w op c + 0))
    omega
  · rintro n ⟨a, l⟩ ⟨ha, rfl⟩
    simp only at ha
    rw [List.take_length, ← eR] at ha
    have : a = nI R := j_eq.mpr (by rw [ha, j_nI (by omega)])
    subst this
    show ∃ σ', fX3_giveRest_4 432 (n + 1) σ (nI R) (nI pl.length) = _ ∧ _
    rw [fX3_giveRest_4, h.1, if_pos (by rw [j_le]; exact Int.le_refl _)]
    exact outer
theorem s_giveShares10 (x : XB pl m w) (h0 : 0 ≤ room ∧ room ≤ 400) (hs : Sm m pl < room) : ∀ (n r fuel : Nat) (σ : Sg) (op : Nat → Bool), SI0 σ pl m w → SO σ pl m op → 1 ≤ xn pl op → xn pl op ≤ n → (r : Int) + xn pl op ≤ pl.length → n < fuel → ∃ σ', fX3_giveShares_10 432 fuel σ (oI room) (nI r) = some σ' ∧ Out σ σ' 435 437 ∧ rv (σ'.1 435) pl (xs pl (xr pl room m w (xg pl room m w n op)) (room - Sm (xe pl room m w (xg pl room m w n op)) pl).toNat (xg pl room m w n op) (xe pl room m w (xg pl room m w n op)))
  | 0, r, fuel, σ, op, _, _, h1, h2, _, _ => absurd h1 (by omega)
  | n + 1, r, 0, σ, op, _, _, _, _, _, hf => absurd hf (by omega)
  | n + 1, r, fuel + 1, σ, op, h, hso, h1, h2, h3, hf => by
    have len := x.2.1
    obtain ⟨σ1, a1, o1, so1, v1⟩ := s_closeSmall h x h0 hs h1 hso
    rw [fX3_giveShares_10, h.1, if_neg (by rw [j_lt, j_nI (by omega), j_nI (by omega)]; omega), a1, j_b]
    cases q : xa pl op (xo pl room m w op)
    · -- none closed: the rest
      simp only [Bool.false_eq_true, if_false]
      have eg : xg pl room m w (n + 1) op = op := by
        unfold xg
        rw [q, if_neg (by decide)]
      rw [eg]
      have same : ∀ c ∈ pl, xo pl room m w op c = op c := fun c hc => by
        cases z : xo pl room m w op c
        · cases oc : op c
          · rfl
          · exfalso
            have : xa pl op (xo pl room m w op) = true := by
              unfold xa
              rw [List.any_eq_true]
              exact ⟨c, hc, by rw [oc, z]; rfl⟩
            rw [q] at this
            cases this
        · rw [xo_in c z]
      have mem : ∀ k c, pl[k]? = some c → c ∈ pl := fun k c g => List.mem_iff_getElem?.mpr ⟨k, g⟩
      obtain ⟨σ2, a2, o2, v2⟩ := s_giveRest (σ := σ1) (op := op) (h.out o1) x h0 hs h1 (fun k c g => by
        have := so1.1 k c g
        simp only [same c (mem k c g)] at this
        exact this) (fun k c g => by
        unfold xe
        cases oc : op c
        · rw [so1.2 k c g (by rw [same c (mem k c g)]; exact oc)]
          rfl
        · rw [(v1 k c g (by rw [same c (mem k c g)]; exact oc)).1]
          rfl) (fun k c g oc => (v1 k c g (by rw [same c (mem k c g)]; exact oc)).2)
      rw [a2, j_b]
      exact ⟨σ2, rfl, o1.tr o2, v2⟩
    · rw [if_pos rfl, j_s]
      have lt := xa_lt (op := op) (op' := xo pl room m w op) (fun c => xo_in c) q
      have eg : xg pl room m w (n + 1) op = xg pl room m w n (xo pl room m w op) := by
        show (if xa pl op (xo pl room m w op) = true then _ else _) = _
        rw [q, if_pos rfl]
      rw [eg]
      obtain ⟨σ2, a2, o2, v2⟩ := s_giveShares10 x h0 hs n (r + 1) fuel σ1 (xo pl room m w op) (h.out o1) so1 (xo_ne x.1 hs h1) (by omega) (by omega) (by omega)
      exact ⟨σ2, a2, o1.tr o2, v2⟩
/-- Sharing gives each part its share -/
theorem s_shareOut (ne : pl ≠ []) (h : SI0 σ pl m w) (x : XB pl m w) (h0 : 0 ≤ room ∧ room ≤ 400) : ∃ σ', fX3_shareOut σ 432 (oI room) = some σ' ∧ Out σ σ' 435 437 ∧ rv (σ'.1 435) pl (share pl room m w) := by
  have len := x.2.1
  have nd := x.1.1
  have er : (oI room).toInt = room := j_oI (by omega) (by omega)
  have smB : ∀ k, 0 ≤ Sm m (pl.take k) ∧ Sm m (pl.take k) ≤ 965 * 23 := fun k => by
    have a := Sm_up (f := m) (B := 965) (l := pl.take k) (fun c hc => x.2.2.1 c (take_mem hc))
    have b : (pl.take k).length ≤ 23 := by rw [List.length_take]; omega
    exact ⟨Sm_nn (fun c hc => x.1.2.1 c (take_mem hc)), by omega⟩
  unfold fX3_shareOut
  refine lp (F := fun n (s : Int32 × Int32) => fX3_shareOut_4 432 n σ (oI room) s.1 s.2) (Q := fun o => ∃ σ', o = some σ' ∧ Out σ σ' 435 437 ∧ rv (σ'.1 435) pl (share pl room m w)) (fun k s => s.1.toInt = Sm m (pl.take k) ∧ s.2 = nI k) pl.length ?_ ?_ pl.length 0 FU (0, 0) (by omega) (by show _ < 6000; omega) ⟨rfl, rfl⟩
  · rintro n k ⟨a, l⟩ hk ⟨ha, rfl⟩
    simp only at ha
    have gi := List.getElem?_eq_getElem hk
    generalize pl[k] = c at gi
    have hc : c ∈ pl := List.mem_iff_getElem?.mpr ⟨k, gi⟩
    have v3 := h.2.1 k c gi
    have := x.1.2.1 c hc
    have := x.2.2.1 c hc
    have := smB k
    show ∃ s' : Int32 × Int32, _ ∧ fX3_shareOut_4 432 (n + 1) σ (oI room) a (nI k) = _
    rw [fX3_shareOut_4, h.1, if_neg (by rw [j_le, j_nI (by omega), j_nI (by omega)]; omega), show (432 + 1 : Nat) = 433 from rfl, s_atn (by decide) (by omega), j_b, j_nm, j_s]
    refine ⟨(_, nI (k + 1)), ⟨?_, rfl⟩, rfl⟩
    show (a + σ.1 433 k).toInt = _
    rw [j_add (by rw [ha, v3]; omega) (by rw [ha, v3]; omega), ha, v3, take_snoc gi, Sm_app]
    show _ = _ + (m c + 0)
    omega
  · rintro n ⟨a, l⟩ ⟨ha, rfl⟩
    simp only at ha
    rw [List.take_length] at ha
    show ∃ σ', fX3_shareOut_4 432 (n + 1) σ (oI room) a (nI pl.length) = _ ∧ _
    rw [fX3_shareOut_4, h.1, if_pos (by rw [j_le]; exact Int.le_refl _)]
    by_cases q : Sm m pl < room
    · rw [if_pos (j_lt.mpr (by rw [ha, er]; exact q))]
      unfold fX3_giveShares
      obtain ⟨σ1, a1, o1, v1⟩ := s_fill σ 436 23 1 (by decide)
      rw [show (432 + 4 : Nat) = 436 from rfl, a1, j_b]
      have o1 : Out σ σ1 435 437 := o1.mo (by omega) (by omega)
      have n1 : 1 ≤ xn pl (fun c => decide (c ∈ pl)) := by
        cases hp : pl with
        | nil => exact absurd hp ne
        | cons y t => exact xn_pos (c := y) (List.mem_cons_self ..) (decide_eq_true (List.mem_cons_self ..))
      have n2 := (xn_le (fun c => decide (c ∈ pl)) pl).2
      obtain ⟨σ2, a2, o2, v2⟩ := s_giveShares10 x h0 q 24 0 FU σ1 (fun c => decide (c ∈ pl)) (h.out o1) ⟨fun k c g => by
        have k23 : k < 23 := by
          have := (List.getElem?_eq_some_iff.mp g).1
          omega
        rw [v1 k k23]
        simp only [decide_eq_true (List.mem_iff_getElem?.mpr ⟨k, g⟩)]
        rfl, fun k c g z => by
        simp only [decide_eq_true (List.mem_iff_getElem?.mpr ⟨k, g⟩)] at z
        cases z⟩ n1 (by omega) (by omega) (by decide)
      rw [show (0 : Int32) = nI 0 from rfl, a2, j_b]
      refine ⟨σ2, rfl, o1.tr o2, ?_⟩
      unfold share
      rw [if_pos q]
      exact v2
    · rw [if_neg (fun z => q (by rw [j_lt, ha, er] at z; exact z))]
      obtain ⟨σ2, a2, o2, v2⟩ := s_giveMinimums h x h0
      rw [a2, j_b]
      refine ⟨σ2, rfl, o2, ?_⟩
      unfold share
      rw [if_neg q]
      exact v2
/-- no part: nothing to share -/
theorem s_share0 (h : σ.1 432 5 = 0) (r : Int32) : ∃ σ', fX3_shareOut σ 432 r = some σ' ∧ Out σ σ' 435 437 := by
  have z : σ.1 432 5 ≤ 0 := by rw [h]; decide
  show ∃ σ', fX3_shareOut_4 432 (5999 + 1) σ r 0 0 = some σ' ∧ Out σ σ' 435 437
  rw [fX3_shareOut_4, if_pos z]
  by_cases q : (0 : Int32) < r
  · rw [if_pos q]
    obtain ⟨σ1, a1, o1, -⟩ := s_fill σ 436 23 1 (by decide)
    have z1 : σ1.1 432 5 ≤ 0 := by rw [o1.2 432 (by omega)]; exact z
    have h1 : σ1.1 432 5 = 0 := by rw [o1.2 432 (by omega)]; exact h
    have z2 : ¬ σ1.1 432 5 < 0 := by rw [h1]; decide
    have c1 : fX3_closeSmallShares σ1 432 r = some (false, σ1) := by
      unfold fX3_closeSmallShares
      rw [j_nm]
      show fX3_closeSmallShares_9 432 (5999 + 1) σ1 r.toInt64 0 0 = _
      rw [fX3_closeSmallShares_9, if_pos z1]
      show fX3_closeSmallShares_92 432 (5999 + 1) σ1 r.toInt64 0 0 0 = _
      rw [fX3_closeSmallShares_92, if_pos z1, if_pos rfl]
    have c2 : fX3_giveRest σ1 432 r = some σ1 := by
      unfold fX3_giveRest
      show fX3_giveRest_4 432 (5999 + 1) σ1 r 0 = _
      rw [fX3_giveRest_4, if_pos z1]
      show fX3_giveRest_31 432 (5999 + 1) σ1 r 0 = _
      rw [fX3_giveRest_31, if_pos z1, ite_self]
    unfold fX3_giveShares
    rw [show (432 + 4 : Nat) = 436 from rfl, a1, j_b]
    refine ⟨σ1, ?_, o1.mo (by omega) (by omega)⟩
    show (fX3_giveShares_10 432 (5999 + 1) σ1 r 0).bind (fun σ1 => some σ1) = _
    rw [fX3_giveShares_10, if_neg z2, c1, j_b]
    simp only [Bool.false_eq_true, if_false]
    rw [c2, j_b, j_b]
  · rw [if_neg q]
    refine ⟨σ, ?_, Out.rf⟩
    unfold fX3_giveMinimums
    show (fX3_giveMinimums_4 432 (5999 + 1) σ r 0).bind (fun σ2 => some σ2) = _
    rw [fX3_giveMinimums_4, if_pos z, j_b]
end SH2

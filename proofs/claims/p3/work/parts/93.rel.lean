/-! THE RELATION: the class's Sharing is share -/
theorem k_add {a b : Int64} (h0 : -9223372036854775808 ≤ a.toInt + b.toInt) (h1 : a.toInt + b.toInt < 9223372036854775808) : (a + b).toInt = a.toInt + b.toInt := by
  rw [Int64.toInt_add, Int.bmod_def]
  split <;> omega
theorem k_sub {a b : Int64} (h0 : -9223372036854775808 ≤ a.toInt - b.toInt) (h1 : a.toInt - b.toInt < 9223372036854775808) : (a - b).toInt = a.toInt - b.toInt := by
  rw [Int64.toInt_sub, Int.bmod_def]
  split <;> omega
theorem k_mul {a b : Int64} (h0 : -9223372036854775808 ≤ a.toInt * b.toInt) (h1 : a.toInt * b.toInt < 9223372036854775808) : (a * b).toInt = a.toInt * b.toInt := by
  rw [Int64.toInt_mul, Int.bmod_def]
  split <;> omega
theorem k_div {a b : Int64} (h0 : 0 ≤ a.toInt) (h1 : 0 < b.toInt) : (a / b).toInt = a.toInt / b.toInt := by
  have q : a.toInt.tdiv b.toInt = a.toInt / b.toInt := Int.tdiv_eq_ediv_of_nonneg h0
  have l0 : 0 ≤ a.toInt / b.toInt := Int.ediv_nonneg h0 (by omega)
  have l1 : a.toInt / b.toInt ≤ a.toInt := Int.ediv_le_self _ h0
  have hi := Int64.toInt_lt a
  rw [Int64.toInt_div, q, Int.bmod_def]
  split <;> omega
theorem k_32 {a : Int64} (h0 : -2147483648 ≤ a.toInt) (h1 : a.toInt < 2147483648) : a.toInt32.toInt = a.toInt := by
  rw [Int64.toInt_toInt32, Int.bmod_def]
  split <;> omega
theorem k_64 (a : Int32) : a.toInt64.toInt = a.toInt := Int32.toInt_toInt64 a
theorem k_le {a b : Int64} : (lg_cmp a b) ≤ 0 ↔ a.toInt ≤ b.toInt := by rw [lg_cmp_le, Int64.le_iff_toInt_le]
theorem k_eq {a b : Int64} : a = b ↔ a.toInt = b.toInt := Int64.toInt_inj.symm
theorem kz0 : (0 : Int64).toInt = 0 := rfl
/-- a row tells a function over a list -/
def rv (f : Nat → Int32) (l : List Nat) (g : Nat → Int) : Prop := ∀ k c, l[k]? = some c → (f k).toInt = g c
theorem rv_su {σ : Sg} {j k c : Nat} {pl : List Nat} {g g' : Nat → Int} {v : Int32} (hd : pl.Nodup) (h : rv (σ.1 j) pl g) (hk : pl[k]? = some c) (hv : v.toInt = g' c) (hg : ∀ x, x ≠ c → g' x = g x) : rv ((su σ j k v).1 j) pl g' := fun i x hi => by
  rw [su_at]
  by_cases q : i = k
  · subst q
    rw [if_pos ⟨rfl, rfl⟩]
    have : c = x := Option.some.inj (hk.symm.trans hi)
    rw [← this, hv]
  · rw [if_neg (fun z => q z.2), h i x hi, hg]
    intro z
    subst z
    exact q (nd_inj hd hi hk)
section SHC
variable {σ : Sg} {pl : List Nat} {room : Int} {m w : Nat → Int}
/-- the parts as they stand in Sharing -/
def SI0 (σ : Sg) (pl : List Nat) (m w : Nat → Int) : Prop := σ.1 432 5 = nI pl.length ∧ rv (σ.1 433) pl m ∧ rv (σ.1 434) pl w
theorem SI0.out {σ' : Sg} (h : SI0 σ pl m w) (o : Out σ σ' 435 437) : SI0 σ' pl m w := by
  unfold SI0
  rw [o.2 432 (by omega), o.2 433 (by omega), o.2 434 (by omega)]
  exact h
/-- the bounds that the parts keep -/
def XB (pl : List Nat) (m w : Nat → Int) : Prop := XP pl m w ∧ pl.length ≤ 23 ∧ (∀ c ∈ pl, m c ≤ 965) ∧ ∀ c ∈ pl, w c ≤ 1000000
theorem Sm_up {f : Nat → Int} {B : Int} : ∀ {l : List Nat}, (∀ c ∈ l, f c ≤ B) → Sm f l ≤ B * l.length
  | [], _ => by
    show (0 : Int) ≤ B * ((0 : Nat) : Int)
    rw [Int.natCast_zero, Int.mul_zero]
    exact Int.le_refl _
  | c :: t, h => by
    unfold Sm
    have a := h c (List.mem_cons_self ..)
    have b := Sm_up (l := t) (fun x hx => h x (List.mem_cons_of_mem _ hx))
    have e : B * (((c :: t).length : Nat) : Int) = B * (t.length : Int) + B := by
      rw [List.length_cons, Int.natCast_add, Int.mul_add, Int.natCast_one, Int.mul_one]
    omega
theorem take_mem {l : List Nat} {k x : Nat} (h : x ∈ l.take k) : x ∈ l := (List.take_sublist k l).subset h
/-- too little room -/
theorem s_giveMinimums (h : SI0 σ pl m w) (x : XB pl m w) (h0 : 0 ≤ room ∧ room ≤ 400) : ∃ σ', fX3_giveMinimums σ 432 (oI room) = some σ' ∧ Out σ σ' 435 437 ∧ rv (σ'.1 435) pl (xm m pl room) := by
  obtain ⟨⟨nd, m0, w1⟩, len, mB, wB⟩ := x
  unfold fX3_giveMinimums
  refine lp (F := fun n (s : Sg × Int32 × Int32) => fX3_giveMinimums_4 432 n s.1 s.2.1 s.2.2) (Q := fun o => ∃ σ', o = some σ' ∧ Out σ σ' 435 437 ∧ rv (σ'.1 435) pl (xm m pl room)) (fun k s => s.2.2 = nI k ∧ Out σ s.1 435 437 ∧ (0 ≤ s.2.1.toInt ∧ s.2.1.toInt ≤ 400) ∧ (∀ i c, i < k → pl[i]? = some c → (s.1.1 435 i).toInt = xm m pl room c) ∧ ∀ c, c ∈ pl.drop k → xm m pl room c = xm m (pl.drop k) s.2.1.toInt c) pl.length ?_ ?_ pl.length 0 FU (σ, oI room, 0) (by omega) (by show _ < 6000; omega) ⟨rfl, Out.rf, by show 0 ≤ (oI room).toInt ∧ _; rw [j_oI (by omega) (by omega)]; exact h0, fun i c hi => absurd hi (by omega), fun c _ => by
    show _ = xm m pl (oI room).toInt c
    rw [j_oI (by omega) (by omega)]⟩
  · rintro n k ⟨s, r, l⟩ hk ⟨rfl, ho, hr, hv, hx⟩
    simp only at ho hr hv hx
    obtain ⟨c5, r3, r4⟩ := h.out ho
    have gi := List.getElem?_eq_getElem hk
    have dk := List.drop_eq_getElem_cons hk
    generalize pl[k] = c at gi dk
    have hc : c ∈ pl := List.mem_iff_getElem?.mpr ⟨k, gi⟩
    have mc := r3 k c gi
    have := m0 c hc
    have := mB c hc
    have vT : (if r < s.1 433 k then r else s.1 433 k).toInt = if r.toInt < m c then r.toInt else m c := by
      rw [← mc]
      by_cases y : r < s.1 433 k
      · rw [if_pos y, if_pos (j_lt.mp y)]
      · rw [if_neg y, if_neg (fun z => y (j_lt.mpr z))]
    have vr : 0 ≤ (if r.toInt < m c then r.toInt else m c) ∧ (if r.toInt < m c then r.toInt else m c) ≤ r.toInt := by split <;> omega
    have xc0 : xm m pl room c = if r.toInt < m c then r.toInt else m c := by
      rw [hx c (by rw [dk]; exact List.mem_cons_self ..), dk]
      show (if c = c then _ else _) = _
      rw [if_pos rfl]
    generalize hv' : (if r < s.1 433 k then r else s.1 433 k) = v at *
    have rv' : (r - v).toInt = r.toInt - v.toInt := j_sub (by omega) (by omega)
    show ∃ s' : Sg × Int32 × Int32, _ ∧ fX3_giveMinimums_4 432 (n + 1) s r (nI k) = _
    rw [fX3_giveMinimums_4, c5, if_neg (by rw [j_le, j_nI (by omega), j_nI (by omega)]; omega), show (432 + 1 : Nat) = 433 from rfl, s_atn (by decide) (by omega), j_b, hv', j_nm, show (432 + 3 : Nat) = 435 from rfl, s_putn (by decide) (by omega), j_b, j_nm, j_s]
    refine ⟨(_, _, nI (k + 1)), ⟨rfl, ho.tr (su_out.mo (by omega) (by omega)), by show 0 ≤ (r - v).toInt ∧ (r - v).toInt ≤ 400; omega, fun i y hi gy => ?_, fun y hy => ?_⟩, rfl⟩
    · show ((su s 435 k v).1 435 i).toInt = _
      rw [su_at]
      by_cases z : i = k
      · rw [if_pos ⟨rfl, z⟩]
        rw [z] at gy
        rw [← Option.some.inj (gi.symm.trans gy), xc0, vT]
      · rw [if_neg (fun q => z q.2)]
        exact hv i y (by omega) gy
    · show _ = xm m (pl.drop (k + 1)) (r - v).toInt y
      have ne : y ≠ c := fun z => by
        have nd2 : (pl.drop k).Nodup := nd.sublist (List.drop_sublist k pl)
        rw [dk, List.nodup_cons] at nd2
        exact nd2.1 (z ▸ hy)
      rw [hx y (by rw [dk]; exact List.mem_cons_of_mem _ hy), dk]
      show (if y = c then _ else xm m (pl.drop (k + 1)) (r.toInt - (if r.toInt < m c then r.toInt else m c)) y) = _
      rw [if_neg ne, rv', vT]
  · rintro n ⟨s, r, l⟩ ⟨rfl, ho, hr, hv, hx⟩
    simp only at ho hr hv hx
    obtain ⟨c5, r3, r4⟩ := h.out ho
    show ∃ σ', fX3_giveMinimums_4 432 (n + 1) s r (nI pl.length) = _ ∧ _
    rw [fX3_giveMinimums_4, c5, if_pos (by rw [j_le]; exact Int.le_refl _)]
    exact ⟨s, rfl, ho, fun k c hk => hv k c (List.getElem?_eq_some_iff.mp hk).1 hk⟩
/-- the flags tell who is open, the sizes of the closed ones are their least -/
def SO (σ : Sg) (pl : List Nat) (m : Nat → Int) (op : Nat → Bool) : Prop := rv (σ.1 436) pl (fun c => if op c then 1 else 0) ∧ ∀ k c, pl[k]? = some c → op c = false → (σ.1 435 k).toInt = m c
/-- one round: who gets less than the least is closed -/
theorem s_close92 (h : SI0 σ pl m w) (x : XB pl m w) (h0 : 0 ≤ room ∧ room ≤ 400) (hs : Sm m pl < room) {op : Nat → Bool} (ho1 : 1 ≤ xn pl op) (hso : SO σ pl m op) {l2 l4 : Int64} (e2 : l2.toInt = room - xc pl m op) (e4 : l4.toInt = xw pl w op) : ∃ σ', fX3_closeSmallShares_92 432 FU σ l2 l4 0 0 = some (xa pl op (xo pl room m w op), σ') ∧ Out σ σ' 435 437 ∧ SO σ' pl m (xo pl room m w op) ∧ ∀ k c, pl[k]? = some c → xo pl room m w op c = true → (σ'.1 435 k).toInt = xq pl room m w op c ∧ (σ'.1 437 k).toInt = xr pl room m w op c := by
  obtain ⟨⟨nd, m0, w1⟩, len, mB, wB⟩ := x
  have XPh : XP pl m w := ⟨nd, m0, w1⟩
  obtain ⟨y, hy, ey⟩ := xn_ex ho1
  have wp := xw_pos XPh hy ey
  have wu : xw pl w op ≤ 23000000 := by
    have a := Sm_up (f := fun c => if op c then w c else 0) (B := 1000000) (l := pl) (fun c hc => by
      show (if op c then w c else 0) ≤ 1000000
      have := wB c hc
      split <;> omega)
    unfold xw
    omega
  have lo := xc_lt hs op
  have l1 : 0 ≤ Sm (fun c => if op c then m c else 0) pl := Sm_nn (fun c hc => by
    show 0 ≤ if op c then m c else 0
    have := m0 c hc
    split <;> omega)
  have cn : 0 ≤ xc pl m op := Sm_nn (fun c hc => by
    show 0 ≤ if op c then 0 else m c
    have := m0 c hc
    split <;> omega)
  have z4 : ¬ (lg_cmp l4 0) ≤ 0 := by rw [k_le, e4, kz0]; omega
  have z0 : ¬ l4 = 0 := by rw [k_eq, e4, kz0]; omega
  refine lp (F := fun n (s : Sg × Int32 × Int32) => fX3_closeSmallShares_92 432 n s.1 l2 l4 s.2.1 s.2.2) (Q := fun o => ∃ σ', o = some (xa pl op (xo pl room m w op), σ') ∧ Out σ σ' 435 437 ∧ SO σ' pl m (xo pl room m w op) ∧ ∀ k c, pl[k]? = some c → xo pl room m w op c = true → (σ'.1 435 k).toInt = xq pl room m w op c ∧ (σ'.1 437 k).toInt = xr pl room m w op c) (fun k s => s.2.2 = nI k ∧ Out σ s.1 435 437 ∧ s.2.1 = (if xa (pl.take k) op (xo pl room m w op) then 1 else 0) ∧ SO s.1 pl m (fun c => if c ∈ pl.take k then xo pl room m w op c else op c) ∧ ∀ i c, i < k → pl[i]? = some c → xo pl room m w op c = true → (s.1.1 435 i).toInt = xq pl room m w op c ∧ (s.1.1 437 i).toInt = xr pl room m w op c) pl.length ?_ ?_ pl.length 0 FU (σ, 0, 0) (by omega) (by show _ < 6000; omega) ⟨rfl, Out.rf, rfl, hso, fun i c hi => absurd hi (by omega)⟩
  · rintro n k ⟨s, f, l⟩ hk ⟨rfl, ho, hf, hso', hv⟩
    simp only at ho hf hso' hv
    obtain ⟨c5, r3, r4⟩ := h.out ho
    have gi := List.getElem?_eq_getElem hk
    generalize pl[k] = c at gi
    have hc : c ∈ pl := List.mem_iff_getElem?.mpr ⟨k, gi⟩
    have mc := r3 k c gi
    have wc := r4 k c gi
    have w1c := w1 c hc
    have wBc := wB c hc
    have m0c := m0 c hc
    have mBc := mB c hc
    have nt : ¬ c ∈ pl.take k := fun z => by
      obtain ⟨i, hi⟩ := List.mem_iff_getElem?.mp z
      have ik : i < k := by
        have := (List.getElem?_eq_some_iff.mp hi).1
        rw [List.length_take] at this
        omega
      rw [List.getElem?_take_of_lt ik] at hi
      have := nd_inj nd hi gi
      omega
    have f6 := hso'.1 k c gi
    simp only [if_neg nt] at f6
    have tk := take_snoc gi
    have xat : xa (pl.take (k + 1)) op (xo pl room m w op) = (xa (pl.take k) op (xo pl room m w op) || (op c && !xo pl room m w op c)) := by
      unfold xa
      rw [tk, List.any_append]
      simp
    have tin : ∀ z, (z ∈ pl.take (k + 1)) ↔ (z ∈ pl.take k ∨ z = c) := fun z => by
      rw [tk, List.mem_append]
      simp
    show ∃ s' : Sg × Int32 × Int32, _ ∧ fX3_closeSmallShares_92 432 (n + 1) s l2 l4 f (nI k) = _
    have nle : ¬ nI pl.length ≤ nI k := by rw [j_le, j_nI (by omega), j_nI (by omega)]; omega
    rw [fX3_closeSmallShares_92, c5, if_neg nle, if_neg z4, show (432 + 4 : Nat) = 436 from rfl, s_atn (by decide) (by omega), j_b]
    cases oc : op c
    · -- closed already
      rw [oc] at f6
      have f6 : (s.1 436 k).toInt = 0 := f6
      have nf : ¬ s.1 436 k = 1 := fun z => by rw [j_eq, f6, jz1] at z; omega
      rw [if_neg nf, fX3_closeSmallShares_217, j_s]
      have xof : xo pl room m w op c = false := by
        unfold xo
        rw [oc, Bool.false_and]
      have same : (fun z => if z ∈ pl.take (k + 1) then xo pl room m w op z else op z) = fun z => if z ∈ pl.take k then xo pl room m w op z else op z := by
        funext z
        by_cases q : z = c
        · subst q
          rw [if_pos ((tin z).mpr (Or.inr rfl)), if_neg nt, oc, xof]
        · by_cases q2 : z ∈ pl.take k
          · rw [if_pos ((tin z).mpr (Or.inl q2)), if_pos q2]
          · rw [if_neg (fun y => ((tin z).mp y).elim q2 q), if_neg q2]
      refine ⟨(s, f, nI (k + 1)), ⟨rfl, ho, ?_, by rw [same]; exact hso', fun i z hi gz oz => ?_⟩, rfl⟩
      · show f = _
        rw [hf, xat, oc, Bool.false_and, Bool.or_false]
      · by_cases q : i = k
        · subst q
          rw [← Option.some.inj (gi.symm.trans gz), xof] at oz
          cases oz
        · exact hv i z (by omega) gz oz
    · rw [oc] at f6
      have f6 : (s.1 436 k).toInt = 1 := f6
      have pf : s.1 436 k = 1 := j_eq.mpr (by rw [f6, jz1])
      rw [if_pos pf, show (432 + 2 : Nat) = 434 from rfl, s_atn (by decide) (by omega), j_b, j_nm, if_neg z0]
      have n0 : 0 ≤ (room - xc pl m op) * w c := Int.mul_nonneg (by omega) (by omega)
      have n1 : (room - xc pl m op) * w c ≤ 400 * 1000000 := Int.mul_le_mul (by omega) (by omega) (by omega) (by omega)
      have v6 : (l2 * (s.1 434 k).toInt64).toInt = (room - xc pl m op) * w c := by
        rw [k_mul (by rw [k_64, e2, wc]; omega) (by rw [k_64, e2, wc]; omega), k_64, e2, wc]
      generalize l2 * (s.1 434 k).toInt64 = v at v6
      have vq : (v / l4).toInt = xq pl room m w op c := by
        rw [k_div (by rw [v6]; exact n0) (by rw [e4]; omega), v6, e4]
        rfl
      have q0 : 0 ≤ xq pl room m w op c := Int.ediv_nonneg n0 (by omega)
      have q1 : xq pl room m w op c ≤ (room - xc pl m op) * w c := Int.ediv_le_self _ n0
      have qm := Int.mul_ediv_add_emod ((room - xc pl m op) * w c) (xw pl w op)
      have r0 : 0 ≤ xr pl room m w op c := Int.emod_nonneg _ (by omega)
      have r1 : xr pl room m w op c < xw pl w op := Int.emod_lt_of_pos _ (by omega)
      have qm : xw pl w op * xq pl room m w op c + xr pl room m w op c = (room - xc pl m op) * w c := qm
      have qq : ((v / l4) * l4).toInt = xw pl w op * xq pl room m w op c := by
        rw [k_mul (by rw [vq, e4, Int.mul_comm]; omega) (by rw [vq, e4, Int.mul_comm]; omega), vq, e4, Int.mul_comm]
      have vr : (v - (v / l4) * l4).toInt = xr pl room m w op c := by
        rw [k_sub (by rw [qq, v6]; omega) (by rw [qq, v6]; omega), qq, v6]
        omega
      have q32 : (v / l4).toInt32.toInt = xq pl room m w op c := by rw [k_32 (by rw [vq]; omega) (by rw [vq]; omega), vq]
      have r32 : (v - (v / l4) * l4).toInt32.toInt = xr pl room m w op c := by rw [k_32 (by rw [vr]; omega) (by rw [vr]; omega), vr]
      rw [show (432 + 3 : Nat) = 435 from rfl, s_putn (by decide) (by omega), j_b, if_neg z0, show (432 + 5 : Nat) = 437 from rfl, s_putn (by decide) (by omega), j_b]
      generalize hq : (v / l4).toInt32 = Q at q32
      generalize hr' : (v - (v / l4) * l4).toInt32 = Rr at r32
      have g435 : (su (su s 435 k Q) 437 k Rr).1 435 k = Q := by rw [su_at, if_neg (by omega), su_at, if_pos ⟨rfl, rfl⟩]
      have g433 : (su (su s 435 k Q) 437 k Rr).1 433 k = s.1 433 k := by rw [su_at, if_neg (by omega), su_at, if_neg (by omega)]
      rw [s_atn (by decide) (by omega), j_b, show (432 + 1 : Nat) = 433 from rfl, s_atn (by decide) (by omega), j_b, g435, g433]
      have o2 : Out σ (su (su s 435 k Q) 437 k Rr) 435 437 := (ho.tr (su_out.mo (by omega) (by omega))).tr (su_out.mo (by omega) (by omega))
      have upd : ∀ b, xo pl room m w op c = b → (fun z => if z ∈ pl.take (k + 1) then xo pl room m w op z else op z) = fun z => if z = c then b else if z ∈ pl.take k then xo pl room m w op z else op z := fun b hb => by
        funext z
        by_cases q : z = c
        · subst q
          rw [if_pos ((tin z).mpr (Or.inr rfl)), if_pos rfl, hb]
        · rw [if_neg q]
          by_cases q2 : z ∈ pl.take k
          · rw [if_pos ((tin z).mpr (Or.inl q2)), if_pos q2]
          · rw [if_neg (fun y => ((tin z).mp y).elim q2 q), if_neg q2]
      have uniq : ∀ i z, pl[i]? = some z → (z = c ↔ i = k) := fun i z gz => by
        constructor
        · intro q
          subst q
          exact nd_inj nd gz gi
        · intro q
          subst q
          exact Option.some.inj (gz.symm.trans gi)
      by_cases q : m c ≤ xq pl room m w op c
      · have pq : s.1 433 k ≤ Q := j_le.mpr (by rw [mc, q32]; exact q)
        rw [if_pos pq, fX3_closeSmallShares_217, j_s]
        have xoc : xo pl room m w op c = true := by
          unfold xo
          rw [oc, decide_eq_true q]
          rfl
        refine ⟨(su (su s 435 k Q) 437 k Rr, f, nI (k + 1)), ⟨rfl, o2, ?_, ?_, fun i z hi gz oz => ?_⟩, rfl⟩
        · show f = _
          rw [hf, xat, xoc, oc]
          simp
        · rw [upd true xoc]
          refine ⟨fun i z gz => ?_, fun i z gz oz => ?_⟩
          · show ((su (su s 435 k Q) 437 k Rr).1 436 i).toInt = _
            rw [su_at, if_neg (by omega), su_at, if_neg (by omega), hso'.1 i z gz]
            by_cases y : z = c
            · subst y
              simp only [if_neg nt, if_true, oc]
            · simp only [if_neg y]
          · have nk : i ≠ k := fun y => by
              simp only [if_pos ((uniq i z gz).mpr y)] at oz
              cases oz
            have nc : z ≠ c := fun y => nk ((uniq i z gz).mp y)
            simp only [if_neg nc] at oz
            show ((su (su s 435 k Q) 437 k Rr).1 435 i).toInt = _
            rw [su_at, if_neg (by omega), su_at, if_neg (by omega)]
            exact hso'.2 i z gz oz
        · show ((su (su s 435 k Q) 437 k Rr).1 435 i).toInt = _ ∧ ((su (su s 435 k Q) 437 k Rr).1 437 i).toInt = _
          by_cases y : i = k
          · have := (uniq i z gz).mpr y
            subst y
            subst this
            rw [g435, su_at, if_pos ⟨rfl, rfl⟩]
            exact ⟨q32, r32⟩
          · have := hv i z (by omega) gz oz
            rw [su_at, if_neg (by omega), su_at, if_neg (by omega), su_at, if_neg (by omega), su_at, if_neg (by omega)]
            exact this
      · have nq : ¬ s.1 433 k ≤ Q := fun z => q (by rw [j_le, mc, q32] at z; exact z)
        rw [if_neg nq, j_b, s_putn (by decide) (by omega), j_b, s_putn (by decide) (by omega), j_b, fX3_closeSmallShares_217, j_s]
        have xoc : xo pl room m w op c = false := by
          unfold xo
          rw [decide_eq_false q, Bool.and_false]
        refine ⟨(su (su (su (su s 435 k Q) 437 k Rr) 435 k (s.1 433 k)) 436 k 0, 1, nI (k + 1)), ⟨rfl, (o2.tr (su_out.mo (by omega) (by omega))).tr (su_out.mo (by omega) (by omega)), ?_, ?_, fun i z hi gz oz => ?_⟩, rfl⟩
        · show (1 : Int32) = _
          rw [xat, xoc, oc]
          simp
        · rw [upd false xoc]
          refine ⟨fun i z gz => ?_, fun i z gz oz => ?_⟩
          · show ((su (su (su (su s 435 k Q) 437 k Rr) 435 k (s.1 433 k)) 436 k 0).1 436 i).toInt = _
            rw [su_at]
            by_cases y : i = k
            · rw [if_pos ⟨rfl, y⟩]
              simp only [if_pos ((uniq i z gz).mpr y)]
              rfl
            · rw [if_neg (fun u => y u.2), su_at, if_neg (by omega), su_at, if_neg (by omega), su_at, if_neg (by omega), hso'.1 i z gz]
              simp only [if_neg (fun u => y ((uniq i z gz).mp u))]
          · show ((su (su (su (su s 435 k Q) 437 k Rr) 435 k (s.1 433 k)) 436 k 0).1 435 i).toInt = _
            rw [su_at, if_neg (by omega), su_at]
            by_cases y : i = k
            · rw [if_pos ⟨rfl, y⟩, (uniq i z gz).mpr y, mc]
            · have nc : z ≠ c := fun u => y ((uniq i z gz).mp u)
              simp only [if_neg nc] at oz
              rw [if_neg (fun u => y u.2), su_at, if_neg (by omega), su_at, if_neg (by omega)]
              exact hso'.2 i z gz oz
        · have y : i ≠ k := fun y => by
            rw [(uniq i z gz).mpr y, xoc] at oz
            cases oz
          have := hv i z (by omega) gz oz
          show ((su (su (su (su s 435 k Q) 437 k Rr) 435 k (s.1 433 k)) 436 k 0).1 435 i).toInt = _ ∧ ((su (su (su (su s 435 k Q) 437 k Rr) 435 k (s.1 433 k)) 436 k 0).1 437 i).toInt = _
          rw [su_at, if_neg (by omega), su_at, if_neg (by omega), su_at, if_neg (by omega), su_at, if_neg (by omega), su_at, if_neg (by omega), su_at, if_neg (by omega), su_at, if_neg (by omega), su_at, if_neg (by omega)]
          exact this
  · rintro n ⟨s, f, l⟩ ⟨rfl, ho, hf, hso', hv⟩
    simp only at ho hf hso' hv
    obtain ⟨c5, r3, r4⟩ := h.out ho
    rw [List.take_length] at hso'
    show ∃ σ', fX3_closeSmallShares_92 432 (n + 1) s l2 l4 f (nI pl.length) = _ ∧ _
    rw [List.take_length] at hf
    rw [fX3_closeSmallShares_92, c5, if_pos (by rw [j_le]; exact Int.le_refl _), hf]
    refine ⟨s, ?_, ho, ⟨fun i z gz => ?_, fun i z gz oz => ?_⟩, fun i z gz oz => hv i z (List.getElem?_eq_some_iff.mp gz).1 gz oz⟩
    · cases xa pl op (xo pl room m w op)
      · rfl
      · rfl
    · have := hso'.1 i z gz
      simp only [if_pos (List.mem_iff_getElem?.mpr ⟨i, gz⟩)] at this
      exact this
    · refine hso'.2 i z gz ?_
      simp only [if_pos (List.mem_iff_getElem?.mpr ⟨i, gz⟩)]
      exact oz
end SHC

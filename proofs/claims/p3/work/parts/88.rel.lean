/-! THE RELATION: the sharing of room -/
/-- closed parts' room; open parts' weight -/
def xc (pl : List Nat) (m : Nat → Int) (op : Nat → Bool) : Int := Sm (fun c => if op c then 0 else m c) pl
def xw (pl : List Nat) (w : Nat → Int) (op : Nat → Bool) : Int := Sm (fun c => if op c then w c else 0) pl
/-- an open part's share, and what is left of it -/
def xq (pl : List Nat) (room : Int) (m w : Nat → Int) (op : Nat → Bool) (c : Nat) : Int := (room - xc pl m op) * w c / xw pl w op
def xr (pl : List Nat) (room : Int) (m w : Nat → Int) (op : Nat → Bool) (c : Nat) : Int := (room - xc pl m op) * w c % xw pl w op
/-- the parts open after one round -/
def xo (pl : List Nat) (room : Int) (m w : Nat → Int) (op : Nat → Bool) : Nat → Bool := fun c => op c && decide (m c ≤ xq pl room m w op c)
def xa (pl : List Nat) (op op' : Nat → Bool) : Bool := pl.any (fun c => op c && !op' c)
def xg (pl : List Nat) (room : Int) (m w : Nat → Int) : Nat → (Nat → Bool) → (Nat → Bool)
  | 0, op => op
  | n + 1, op => if xa pl op (xo pl room m w op) then xg pl room m w n (xo pl room m w op) else op
/-- the first part of the greatest rest -/
def xp (r : Nat → Int) (op : Nat → Bool) : List Nat → Int → Int → Int
  | [], b, _ => b
  | c :: t, b, v => if op c && decide (v < r c) then xp r op t c (r c) else xp r op t b v
def xs (pl : List Nat) (r : Nat → Int) : Nat → (Nat → Bool) → (Nat → Int) → (Nat → Int)
  | 0, _, sh => sh
  | n + 1, op, sh => xs pl r n (fun c => op c && !decide (c = (xp r op pl (-1) (-1)).toNat)) (fun c => if c = (xp r op pl (-1) (-1)).toNat then sh c + 1 else sh c)
/-- too little room: in order, as much as is needed -/
def xm (m : Nat → Int) : List Nat → Int → Nat → Int
  | [], _ => fun _ => 0
  | c :: t, r => fun x => if x = c then (if r < m c then r else m c) else xm m t (r - (if r < m c then r else m c)) x
/-- what is given before the rest is -/
def xe (pl : List Nat) (room : Int) (m w : Nat → Int) (op : Nat → Bool) : Nat → Int := fun c => if op c then xq pl room m w op c else m c
def share (pl : List Nat) (room : Int) (m w : Nat → Int) : Nat → Int :=
  if Sm m pl < room then xs pl (xr pl room m w (xg pl room m w 24 (fun c => decide (c ∈ pl)))) (room - Sm (xe pl room m w (xg pl room m w 24 (fun c => decide (c ∈ pl)))) pl).toNat (xg pl room m w 24 (fun c => decide (c ∈ pl))) (xe pl room m w (xg pl room m w 24 (fun c => decide (c ∈ pl)))) else xm m pl room
section SHR
variable {pl : List Nat} {room : Int} {m w : Nat → Int}
/-- how many are open -/
def xn (pl : List Nat) (op : Nat → Bool) : Int := Sm (fun c => if op c then 1 else 0) pl
theorem xn_le (op : Nat → Bool) : ∀ (pl : List Nat), 0 ≤ xn pl op ∧ xn pl op ≤ pl.length
  | [] => ⟨Int.le_refl _, Int.le_refl _⟩
  | c :: t => by
    have := xn_le op t
    have e : xn (c :: t) op = (if op c = true then (1 : Int) else 0) + xn t op := rfl
    rw [e, List.length_cons]
    split <;> omega
theorem xn_pos {op : Nat → Bool} {c : Nat} (hc : c ∈ pl) (h : op c = true) : 1 ≤ xn pl op := by
  have := Sm_mem (f := fun c => if op c then (1 : Int) else 0) (l := pl) (fun c _ => by show 0 ≤ (if op c then (1 : Int) else 0); split <;> omega) hc
  simp only [h, if_true] at this
  exact this
theorem xn_ex {op : Nat → Bool} : ∀ {pl : List Nat}, 1 ≤ xn pl op → ∃ c ∈ pl, op c = true
  | [], h => by
    unfold xn Sm at h
    omega
  | c :: t, h => by
    cases q : op c
    · have : xn (c :: t) op = xn t op := by
        show (if op c = true then (1 : Int) else 0) + xn t op = _
        rw [q]
        simp
      obtain ⟨x, hx, e⟩ := xn_ex (op := op) (pl := t) (by omega)
      exact ⟨x, List.mem_cons_of_mem _ hx, e⟩
    · exact ⟨c, List.mem_cons_self .., q⟩
/-- the hypotheses on the parts -/
def XP (pl : List Nat) (m w : Nat → Int) : Prop := pl.Nodup ∧ (∀ c ∈ pl, 0 ≤ m c) ∧ ∀ c ∈ pl, 1 ≤ w c
theorem xw_pos (h : XP pl m w) {op : Nat → Bool} {c : Nat} (hc : c ∈ pl) (ho : op c = true) : 1 ≤ xw pl w op := by
  have := Sm_mem (f := fun c => if op c then w c else 0) (l := pl) (fun c hc => by
    show 0 ≤ (if op c then w c else 0)
    have := h.2.2 c hc
    split <;> omega) hc
  simp only [ho, if_true] at this
  have := h.2.2 c hc
  unfold xw
  omega
theorem xc_open (m : Nat → Int) (op : Nat → Bool) (pl : List Nat) : Sm m pl = xc pl m op + Sm (fun c => if op c then m c else 0) pl := by
  unfold xc
  rw [← Sm_add]
  refine Sm_congr (fun c _ => ?_)
  show m c = (if op c then 0 else m c) + (if op c then m c else 0)
  cases op c <;> simp
/-- there is more left for the open ones than they need -/
theorem xc_lt (hs : Sm m pl < room) (op : Nat → Bool) : Sm (fun c => if op c then m c else 0) pl < room - xc pl m op := by
  have := xc_open m op pl
  omega
theorem xo_ne (h : XP pl m w) (hs : Sm m pl < room) {op : Nat → Bool} (ho : 1 ≤ xn pl op) : 1 ≤ xn pl (xo pl room m w op) := by
  obtain ⟨x, hx, ex⟩ := xn_ex ho
  have hw := xw_pos h hx ex
  refine Classical.byContradiction (fun no => ?_)
  have all : ∀ c ∈ pl, op c = true → xq pl room m w op c < m c := fun c hc oc => by
    refine Classical.byContradiction (fun z => no (xn_pos hc ?_))
    unfold xo
    rw [oc, decide_eq_true (by omega)]
    rfl
  have lt : ∀ c ∈ pl, op c = true → (room - xc pl m op) * w c < m c * xw pl w op := fun c hc oc => by
    have := all c hc oc
    unfold xq at this
    exact (Int.ediv_lt_iff_lt_mul (by omega)).mp this
  have s1 : Sm (fun c => (room - xc pl m op) * (if op c then w c else 0)) pl < Sm (fun c => xw pl w op * (if op c then m c else 0)) pl := by
    refine Sm_lt (x := x) (fun c hc => ?_) hx ?_
    · show (room - xc pl m op) * (if op c then w c else 0) ≤ xw pl w op * (if op c then m c else 0)
      cases oc : op c
      · simp
      · have := lt c hc oc
        simp only [if_true]
        rw [Int.mul_comm (xw pl w op)]
        omega
    · show (room - xc pl m op) * (if op x then w x else 0) < xw pl w op * (if op x then m x else 0)
      have := lt x hx ex
      simp only [ex, if_true]
      rw [Int.mul_comm (xw pl w op)]
      omega
  rw [Sm_mul, Sm_mul] at s1
  have e1 : Sm (fun c => if op c then w c else 0) pl = xw pl w op := rfl
  rw [e1, Int.mul_comm] at s1
  have := Int.lt_of_mul_lt_mul_left s1 (by omega)
  have := xc_lt hs op
  omega
theorem xo_in {op : Nat → Bool} (c : Nat) (h : xo pl room m w op c = true) : op c = true := by
  unfold xo at h
  simp only [Bool.and_eq_true] at h
  exact h.1
theorem xn_mono {op op' : Nat → Bool} (h : ∀ c, op' c = true → op c = true) : xn pl op' ≤ xn pl op := by
  refine Sm_le (fun c _ => ?_)
  show (if op' c then (1 : Int) else 0) ≤ if op c then 1 else 0
  cases q : op' c
  · cases op c <;> simp
  · rw [h c q]
    simp
theorem xa_lt {op op' : Nat → Bool} (h : ∀ c, op' c = true → op c = true) (ha : xa pl op op' = true) : xn pl op' < xn pl op := by
  unfold xa at ha
  rw [List.any_eq_true] at ha
  obtain ⟨x, hx, e⟩ := ha
  simp only [Bool.and_eq_true, Bool.not_eq_true'] at e
  refine Sm_lt (x := x) (fun c _ => ?_) hx ?_
  · show (if op' c then (1 : Int) else 0) ≤ if op c then 1 else 0
    cases q : op' c
    · cases op c <;> simp
    · rw [h c q]
      simp
  · show (if op' x then (1 : Int) else 0) < if op x then 1 else 0
    rw [e.1, e.2]
    simp
theorem xg_ok (h : XP pl m w) (hs : Sm m pl < room) : ∀ (n : Nat) (op : Nat → Bool), 1 ≤ xn pl op → xn pl op ≤ n → (∀ c, xg pl room m w n op c = true → op c = true) ∧ 1 ≤ xn pl (xg pl room m w n op) ∧ xa pl (xg pl room m w n op) (xo pl room m w (xg pl room m w n op)) = false
  | 0, op, h1, h2 => absurd h1 (by omega)
  | n + 1, op, h1, h2 => by
    unfold xg
    cases q : xa pl op (xo pl room m w op)
    · rw [if_neg (by decide)]
      exact ⟨fun c z => z, h1, q⟩
    · rw [if_pos rfl]
      have lt := xa_lt (op := op) (op' := xo pl room m w op) (fun c => xo_in c) q
      obtain ⟨a, b, c⟩ := xg_ok h hs n (xo pl room m w op) (xo_ne h hs h1) (by omega)
      exact ⟨fun c z => xo_in c (a c z), b, c⟩
/-- the rest is less than the open ones are -/
theorem xe_rest (h : XP pl m w) {op : Nat → Bool} (ho : 1 ≤ xn pl op) (hs : Sm m pl < room) : 0 ≤ room - Sm (xe pl room m w op) pl ∧ room - Sm (xe pl room m w op) pl < xn pl op := by
  obtain ⟨x, hx, ex⟩ := xn_ex ho
  have hw := xw_pos h hx ex
  have e1 : Sm (xe pl room m w op) pl = xc pl m op + Sm (fun c => if op c then xq pl room m w op c else 0) pl := by
    unfold xc
    rw [← Sm_add]
    refine Sm_congr (fun c _ => ?_)
    show (if op c then xq pl room m w op c else m c) = (if op c then 0 else m c) + (if op c then xq pl room m w op c else 0)
    cases op c <;> simp
  have e2 : (room - xc pl m op) * xw pl w op = xw pl w op * Sm (fun c => if op c then xq pl room m w op c else 0) pl + Sm (fun c => if op c then xr pl room m w op c else 0) pl := by
    rw [← Sm_mul, ← Sm_add]
    show (room - xc pl m op) * Sm (fun c => if op c then w c else 0) pl = _
    rw [← Sm_mul]
    refine Sm_congr (fun c _ => ?_)
    show (room - xc pl m op) * (if op c then w c else 0) = xw pl w op * (if op c then xq pl room m w op c else 0) + (if op c then xr pl room m w op c else 0)
    cases op c
    · simp
    · simp only [if_true]
      unfold xq xr
      have := Int.mul_ediv_add_emod ((room - xc pl m op) * w c) (xw pl w op)
      omega
  have n0 : 0 ≤ Sm (fun c => if op c then xr pl room m w op c else 0) pl := Sm_nn (fun c _ => by
    show 0 ≤ if op c then xr pl room m w op c else 0
    cases op c
    · simp
    · simp only [if_true]
      exact Int.emod_nonneg _ (by omega))
  have n1 : Sm (fun c => if op c then xr pl room m w op c else 0) pl < xw pl w op * xn pl op := by
    unfold xn
    rw [← Sm_mul]
    refine Sm_lt (x := x) (fun c _ => ?_) hx ?_
    · show (if op c then xr pl room m w op c else 0) ≤ xw pl w op * (if op c then 1 else 0)
      cases op c
      · simp
      · simp only [if_true]
        have := Int.emod_lt_of_pos ((room - xc pl m op) * w c) (b := xw pl w op) (by omega)
        unfold xr
        omega
    · show (if op x then xr pl room m w op x else 0) < xw pl w op * (if op x then 1 else 0)
      simp only [ex, if_true]
      have := Int.emod_lt_of_pos ((room - xc pl m op) * w x) (b := xw pl w op) (by omega)
      unfold xr
      omega
  generalize Sm (fun c => if op c then xq pl room m w op c else 0) pl = Q at *
  generalize Sm (fun c => if op c then xr pl room m w op c else 0) pl = Rr at *
  generalize xw pl w op = W at *
  generalize xn pl op = N at *
  have e3 : (room - xc pl m op - Q) * W = Rr := by
    rw [Int.sub_mul, e2, Int.mul_comm Q W]
    omega
  rw [e1]
  have ek : room - (xc pl m op + Q) = room - xc pl m op - Q := by omega
  rw [ek]
  generalize room - xc pl m op - Q = K at *
  refine ⟨?_, ?_⟩
  · refine Classical.byContradiction (fun z => ?_)
    have := Int.mul_le_mul_of_nonneg_right (show K ≤ -1 by omega) (show 0 ≤ W by omega)
    omega
  · refine Classical.byContradiction (fun z => ?_)
    have := Int.mul_le_mul_of_nonneg_right (show N ≤ K by omega) (show 0 ≤ W by omega)
    rw [Int.mul_comm W N] at n1
    omega
/-- the first of the greatest rest is an open part -/
theorem xp_in {r : Nat → Int} {op : Nat → Bool} : ∀ (l : List Nat) (b v : Int), (∃ c ∈ l, op c = true ∧ v < r c) → ∃ c ∈ l, op c = true ∧ xp r op l b v = c
  | [], b, v, ⟨c, hc, _⟩ => by cases hc
  | x :: t, b, v, ⟨c, hc, oc, lt⟩ => by
    unfold xp
    cases q : (op x && decide (v < r x))
    · rw [if_neg (by decide)]
      have ct : c ∈ t := by
        rcases List.mem_cons.mp hc with rfl | z
        · rw [oc, decide_eq_true lt] at q
          cases q
        · exact z
      obtain ⟨y, hy, a, e⟩ := xp_in t b v ⟨c, ct, oc, lt⟩
      exact ⟨y, List.mem_cons_of_mem _ hy, a, e⟩
    · rw [if_pos rfl]
      simp only [Bool.and_eq_true, decide_eq_true_eq] at q
      by_cases z : ∃ c ∈ t, op c = true ∧ r x < r c
      · obtain ⟨y, hy, a, e⟩ := xp_in t x (r x) z
        exact ⟨y, List.mem_cons_of_mem _ hy, a, e⟩
      · refine ⟨x, List.mem_cons_self .., q.1, ?_⟩
        exact xp_no t x (r x) (fun c hc oc => Int.not_lt.mp (fun lt => z ⟨c, hc, oc, lt⟩))
where xp_no {r : Nat → Int} {op : Nat → Bool} : ∀ (l : List Nat) (b v : Int), (∀ c ∈ l, op c = true → r c ≤ v) → xp r op l b v = b
  | [], _, _, _ => rfl
  | x :: t, b, v, h => by
    unfold xp
    rw [if_neg (by
      intro z
      simp only [Bool.and_eq_true, decide_eq_true_eq] at z
      have := h x (List.mem_cons_self ..) z.1
      omega)]
    exact xp_no t b v (fun c hc => h c (List.mem_cons_of_mem _ hc))
theorem xs_sum {r : Nat → Int} (hd : pl.Nodup) (hr : ∀ c ∈ pl, 0 ≤ r c) : ∀ (n : Nat) (op : Nat → Bool) (sh : Nat → Int), (n : Int) ≤ xn pl op → Sm (xs pl r n op sh) pl = Sm sh pl + n ∧ ∀ c, sh c ≤ xs pl r n op sh c
  | 0, op, sh, _ => ⟨by
    show Sm sh pl = Sm sh pl + 0
    omega, fun c => Int.le_refl _⟩
  | n + 1, op, sh, h => by
    obtain ⟨c, hc, oc⟩ := xn_ex (pl := pl) (op := op) (by omega)
    obtain ⟨x, hx, ox, ex⟩ := xp_in (r := r) pl (-1) (-1) ⟨c, hc, oc, by have := hr c hc; omega⟩
    have en : (xp r op pl (-1) (-1)).toNat = x := by rw [ex]; rfl
    unfold xs
    rw [en]
    have e1 : xn pl (fun c => op c && !decide (c = x)) = xn pl op - 1 := by
      have := Sm_one (f := fun c => if op c then (1 : Int) else 0) (g := fun c => if (op c && !decide (c = x)) then (1 : Int) else 0) hd hx (fun c _ ne => by
        show (if op c = true then (1 : Int) else 0) = if (op c && !decide (c = x)) = true then 1 else 0
        rw [decide_eq_false ne]
        simp)
      simp only [ox, decide_true, Bool.not_true, Bool.and_false, if_true] at this
      unfold xn
      rw [this]
      simp
      omega
    obtain ⟨a, b⟩ := xs_sum hd hr n (fun c => op c && !decide (c = x)) (fun c => if c = x then sh c + 1 else sh c) (by omega)
    have e2 := Sm_one (f := sh) (g := fun c => if c = x then sh c + 1 else sh c) hd hx (fun c _ ne => by
      show sh c = if c = x then sh c + 1 else sh c
      rw [if_neg ne])
    simp only [if_true] at e2
    refine ⟨by rw [a, e2]; omega, fun c => ?_⟩
    have := b c
    split at this <;> omega
theorem xm_rg : ∀ (pl : List Nat) (room : Int), 0 ≤ room → (∀ c ∈ pl, 0 ≤ m c) → ∀ c ∈ pl, 0 ≤ xm m pl room c ∧ xm m pl room c ≤ room
  | [], _, _, _, c, hc => by cases hc
  | x :: t, room, h0, hm, c, hc => by
    have := hm x (List.mem_cons_self ..)
    unfold xm
    by_cases q : c = x
    · simp only [q, if_true]
      split <;> omega
    · simp only [q, if_false]
      have ct : c ∈ t := (List.mem_cons.mp hc).elim (fun z => absurd z q) id
      obtain ⟨a, b⟩ := xm_rg t (room - (if room < m x then room else m x)) (by split <;> omega) (fun c hc => hm c (List.mem_cons_of_mem _ hc)) c ct
      refine ⟨a, ?_⟩
      have : 0 ≤ (if room < m x then room else m x) := by split <;> omega
      omega
/-- a share is at least 0 and no more than the room -/
theorem share_rg (h : XP pl m w) (h0 : 0 ≤ room) (h24 : pl.length ≤ 24) {c : Nat} (hc : c ∈ pl) : 0 ≤ share pl room m w c ∧ share pl room m w c ≤ room := by
  unfold share
  by_cases q : Sm m pl < room
  · rw [if_pos q]
    have o1 : 1 ≤ xn pl (fun c => decide (c ∈ pl)) := xn_pos hc (decide_eq_true hc)
    have o2 := (xn_le (fun c => decide (c ∈ pl)) pl).2
    obtain ⟨a, b, -⟩ := xg_ok h q 24 (fun c => decide (c ∈ pl)) o1 (by omega)
    obtain ⟨r1, r2⟩ := xe_rest h b q
    generalize xg pl room m w 24 (fun c => decide (c ∈ pl)) = op at *
    obtain ⟨x, hx, ex⟩ := xn_ex b
    have hw := xw_pos h hx ex
    have rr : ∀ c ∈ pl, 0 ≤ xr pl room m w op c := fun c _ => Int.emod_nonneg _ (by omega)
    obtain ⟨s1, s2⟩ := xs_sum (r := xr pl room m w op) h.1 rr (room - Sm (xe pl room m w op) pl).toNat op (xe pl room m w op) (by omega)
    have nn : ∀ c ∈ pl, 0 ≤ xe pl room m w op c := fun c hc => by
      unfold xe
      cases oc : op c
      · exact h.2.1 c hc
      · simp only [if_true]
        unfold xq
        have l0 := xc_lt q op
        have l1 : 0 ≤ Sm (fun c => if op c then m c else 0) pl := Sm_nn (fun c hc => by
          show 0 ≤ if op c then m c else 0
          have := h.2.1 c hc
          split <;> omega)
        refine Int.ediv_nonneg (Int.mul_nonneg (by omega) ?_) (by omega)
        have := h.2.2 c hc
        omega
    have n2 : ∀ c ∈ pl, 0 ≤ xs pl (xr pl room m w op) (room - Sm (xe pl room m w op) pl).toNat op (xe pl room m w op) c := fun c hc => by
      have := nn c hc
      have := s2 c
      omega
    have := Sm_mem n2 hc
    rw [s1] at this
    exact ⟨n2 c hc, by omega⟩
  · rw [if_neg q]
    exact xm_rg pl room h0 h.2.1 c hc
end SHR

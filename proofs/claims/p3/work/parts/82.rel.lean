/-! THE RELATION: orders as lists -/
def ol (o : OD) : List Int := (List.range o.1.toNat).map o.2
def DI (o : OD) : Prop := OkO o ∧ ∀ j k : Nat, (j : Int) < o.1 → (k : Int) < o.1 → o.2 j = o.2 k → j = k
theorem LO.di {o : OD} {N : Nat} {m : Nat → Bool} (h : LO o N m) (hN : N ≤ 12) : DI o := ⟨h.ok hN, fun j k hj hk => h.2.2.2 j k (by have := h.1; omega) (by have := h.1; omega)⟩
theorem OE.di {o o' : OD} (h : OE o o') (d : DI o) : DI o' := ⟨by have := h.1; have := d.1; unfold OkO at *; omega, fun j k hj hk e => d.2 j k (by rw [h.1]; exact hj) (by rw [h.1]; exact hk) (by rw [h.2 j (by rw [h.1]; exact hj), h.2 k (by rw [h.1]; exact hk)]; exact e)⟩
theorem ol_OE {o o' : OD} (h : ol o = ol o') (h0 : 0 ≤ o.1) (h1 : 0 ≤ o'.1) : OE o o' := by
  have l : o.1.toNat = o'.1.toNat := by
    have := congrArg List.length h
    unfold ol at this
    simpa using this
  refine ⟨by omega, fun k hk => ?_⟩
  have := congrArg (fun l => l[k]?) h
  unfold ol at this
  simp only [List.getElem?_map] at this
  rw [List.getElem?_range (by omega), List.getElem?_range (by omega)] at this
  simpa using this
theorem OE_ol {o o' : OD} (h : OE o o') : ol o = ol o' := by
  unfold ol
  rw [h.1]
  refine List.map_congr_left (fun k hk => h.2 k ?_)
  have := List.mem_range.mp hk
  have := h.1
  omega
theorem flt_rm (f : Nat → Int) : ∀ (n k0 : Nat), k0 < n → (∀ j k, j < n → k < n → f j = f k → j = k) → ((List.range n).map f).filter (fun y => decide (y ≠ f k0)) = (List.range (n - 1)).map (fun k => if k0 ≤ k then f (k + 1) else f k)
  | 0, k0, h, _ => absurd h (by omega)
  | n + 1, k0, h, hd => by
    rw [List.range_succ, List.map_append, List.filter_append, Nat.add_sub_cancel]
    by_cases e : k0 = n
    · subst e
      have h1 : ((List.range k0).map f).filter (fun y => decide (y ≠ f k0)) = (List.range k0).map f := by
        rw [List.filter_eq_self]
        intro a ha
        obtain ⟨k, hk, rfl⟩ := List.mem_map.mp ha
        have := List.mem_range.mp hk
        rw [decide_eq_true_eq]
        intro z
        have := hd k k0 (by omega) (by omega) z
        omega
      rw [h1]
      simp only [List.map_cons, List.map_nil, List.filter_cons, List.filter_nil, ne_eq, not_true_eq_false, decide_false, Bool.false_eq_true, if_false, List.append_nil]
      refine List.map_congr_left (fun k hk => ?_)
      have := List.mem_range.mp hk
      rw [if_neg (by omega)]
    · have ih := flt_rm f n k0 (by omega) (fun j k hj hk => hd j k (by omega) (by omega))
      have ne : f n ≠ f k0 := fun z => e (hd n k0 (by omega) (by omega) z).symm
      rw [ih]
      simp only [List.map_cons, List.map_nil, List.filter_cons, List.filter_nil, ne, ne_eq, not_false_eq_true, decide_true, if_true]
      have hn : n = (n - 1) + 1 := by omega
      rw [hn, List.range_succ, List.map_append]
      simp only [List.map_cons, List.map_nil, Nat.add_sub_cancel]
      rw [if_pos (by omega)]
theorem ol_mem {o : OD} {x : Int} : x ∈ ol o ↔ ∃ k : Nat, k < o.1.toNat ∧ o.2 k = x := by
  unfold ol
  rw [List.mem_map]
  constructor
  · rintro ⟨k, hk, e⟩
    exact ⟨k, List.mem_range.mp hk, e⟩
  · rintro ⟨k, hk, e⟩
    exact ⟨k, List.mem_range.mpr hk, e⟩
theorem ol_ix {o : OD} {x : Int} : o_ix o x = -1 ↔ ¬ x ∈ ol o := by
  rw [ol_mem]
  unfold o_ix
  rcases fnd_spec (fun k => decide (o.2 k = x)) o.1.toNat with ⟨h1, h2⟩ | ⟨i, h1, h2, h3, _⟩
  · rw [h1]
    refine ⟨fun _ => ?_, fun _ => rfl⟩
    rintro ⟨k, hk, e⟩
    have := h2 k hk
    simp [e] at this
  · rw [h2]
    constructor
    · intro z
      omega
    · intro z
      rw [decide_eq_true_eq] at h3
      exact absurd ⟨i, h1, h3⟩ z
theorem ol_lv {o : OD} (h : DI o) (x : Int) : ol (o_lv o x) = (ol o).filter (fun y => decide (y ≠ x)) ∧ DI (o_lv o x) := by
  obtain ⟨ok, di⟩ := h
  have ok' := o_lv_ok ok x
  by_cases e : o_ix o x = -1
  · have e1 : o_lv o x = o := by unfold o_lv; rw [if_pos e]
    rw [e1]
    refine ⟨?_, ok, di⟩
    symm
    rw [List.filter_eq_self]
    intro a ha
    rw [decide_eq_true_eq]
    intro z
    rw [z] at ha
    exact ol_ix.mp e ha
  · have hr := o_ix_rg (o := o) x
    obtain ⟨k0, hk0⟩ : ∃ k0 : Nat, o_ix o x = k0 := ⟨(o_ix o x).toNat, by omega⟩
    have ex : o.2 k0 = x := by
      unfold o_ix at hk0
      rcases fnd_spec (fun k => decide (o.2 k = x)) o.1.toNat with ⟨h1, _⟩ | ⟨i, h1, h2, h3, _⟩
      · omega
      · have : i = k0 := by omega
        subst this
        simpa using h3
    have e1 : o_lv o x = (o.1 - 1, fun k : Nat => if (k0 : Int) ≤ k ∧ (k : Int) < o.1 - 1 then o.2 (k + 1) else o.2 k) := by
      unfold o_lv
      rw [if_neg e, hk0]
    refine ⟨?_, ok'.1, fun j k hj hk q => ?_⟩
    · rw [e1, ← ex]
      unfold ol
      rw [flt_rm o.2 o.1.toNat k0 (by omega) (fun j k hj hk => di j k (by omega) (by omega)), show (o.1 - 1).toNat = o.1.toNat - 1 by omega]
      refine List.map_congr_left (fun k hk => ?_)
      have := List.mem_range.mp hk
      dsimp only
      by_cases q : k0 ≤ k
      · rw [if_pos (by omega), if_pos q]
      · rw [if_neg (by omega), if_neg q]
    · rw [e1] at hj hk q
      have hj : (j : Int) < o.1 - 1 := hj
      have hk : (k : Int) < o.1 - 1 := hk
      have q : (if (k0 : Int) ≤ j ∧ (j : Int) < o.1 - 1 then o.2 (j + 1) else o.2 j) = (if (k0 : Int) ≤ k ∧ (k : Int) < o.1 - 1 then o.2 (k + 1) else o.2 k) := q
      by_cases a : k0 ≤ j
      · rw [if_pos (by omega)] at q
        by_cases b : k0 ≤ k
        · rw [if_pos (by omega)] at q
          have := di (j + 1) (k + 1) (by omega) (by omega) q
          omega
        · rw [if_neg (by omega)] at q
          have := di (j + 1) k (by omega) (by omega) q
          omega
      · rw [if_neg (by omega)] at q
        by_cases b : k0 ≤ k
        · rw [if_pos (by omega)] at q
          have := di j (k + 1) (by omega) (by omega) q
          omega
        · rw [if_neg (by omega)] at q
          exact di j k (by omega) (by omega) q
theorem ol_pl {o : OD} (h : DI o) (x : Int) (h12 : (o_lv o x).1 < 12) : ol (o_pl o x) = (ol o).filter (fun y => decide (y ≠ x)) ++ [x] ∧ DI (o_pl o x) := by
  obtain ⟨l1, l2⟩ := ol_lv h x
  have ok := l2.1
  unfold OkO at ok
  have e1 : o_pl o x = ((o_lv o x).1 + 1, fun k : Nat => if (k : Int) = (o_lv o x).1 then x else (o_lv o x).2 k) := by
    unfold o_pl
    rw [if_neg (by omega)]
  have nx : ∀ k : Nat, (k : Int) < (o_lv o x).1 → (o_lv o x).2 k ≠ x := fun k hk z => by
    have : x ∈ ol (o_lv o x) := ol_mem.mpr ⟨k, by omega, z⟩
    rw [l1] at this
    have := (List.mem_filter.mp this).2
    simp at this
  refine ⟨?_, o_pl_ok h.1 x, fun j k hj hk q => ?_⟩
  · rw [← l1, e1]
    unfold ol
    rw [show ((o_lv o x).1 + 1).toNat = (o_lv o x).1.toNat + 1 by omega, List.range_succ, List.map_append]
    congr 1
    · refine List.map_congr_left (fun k hk => ?_)
      have := List.mem_range.mp hk
      dsimp only
      rw [if_neg (by omega)]
    · simp only [List.map_cons, List.map_nil]
      rw [if_pos (by omega)]
  · rw [e1] at hj hk q
    have hj : (j : Int) < (o_lv o x).1 + 1 := hj
    have hk : (k : Int) < (o_lv o x).1 + 1 := hk
    have q : (if (j : Int) = (o_lv o x).1 then x else (o_lv o x).2 j) = (if (k : Int) = (o_lv o x).1 then x else (o_lv o x).2 k) := q
    by_cases a : (j : Int) = (o_lv o x).1
    · by_cases b : (k : Int) = (o_lv o x).1
      · omega
      · rw [if_pos a, if_neg b] at q
        exact absurd q.symm (nx k (by omega))
    · by_cases b : (k : Int) = (o_lv o x).1
      · rw [if_neg a, if_pos b] at q
        exact absurd q (nx j (by omega))
      · rw [if_neg a, if_neg b] at q
        exact l2.2 j k (by omega) (by omega) q
/-- panes that are not placed leave, others come behind: as the class does it, pane by pane -/
def fc (c : Nat → Bool) (o : OD) : Nat → OD
  | 0 => o
  | n + 1 => if c n then (if o_ix (fc c o n) n = -1 then o_pl (fc c o n) n else fc c o n) else o_lv (fc c o n) n
/-- all leave first -/
def fl1 (c : Nat → Bool) (o : OD) : Nat → OD
  | 0 => o
  | n + 1 => if c n then fl1 c o n else o_lv (fl1 c o n) n
/-- then the others come -/
def fl2 (c : Nat → Bool) (o : OD) : Nat → OD
  | 0 => o
  | n + 1 => if c n && decide (o_ix (fl2 c o n) n = -1) then o_pl (fl2 c o n) n else fl2 c o n
/-- the orders are of panes -/
def Pn (o : OD) : Prop := ∀ x ∈ ol o, 0 ≤ x ∧ x < 12
theorem Pn.le {o : OD} (h : DI o) (hp : Pn o) {x : Nat} (hx : x < 12) (hn : o_ix o x = -1) : (o_lv o x).1 < 12 := by
  have e : o_lv o x = o := by unfold o_lv; rw [if_pos hn]
  rw [e]
  have ok := h.1
  unfold OkO at ok
  refine Classical.byContradiction (fun no => ?_)
  -- twelve different panes, none of them x: with x they were thirteen
  obtain ⟨i, k, h1, h2, h3⟩ := pigeon 12 (fun i => if i < 12 then (o.2 i).toNat else x) (fun i hi => by
    show (if i < 12 then (o.2 i).toNat else x) < 12
    split
    · have := hp (o.2 i) (ol_mem.mpr ⟨i, by omega, rfl⟩)
      omega
    · exact hx)
  have hi : i < 12 := by omega
  have bi := hp (o.2 i) (ol_mem.mpr ⟨i, by omega, rfl⟩)
  have h3 : (if i < 12 then (o.2 i).toNat else x) = (if k < 12 then (o.2 k).toNat else x) := h3
  rw [if_pos hi] at h3
  by_cases q : k < 12
  · rw [if_pos q] at h3
    have bk := hp (o.2 k) (ol_mem.mpr ⟨k, by omega, rfl⟩)
    have := h.2 i k (by omega) (by omega) (by omega)
    omega
  · rw [if_neg q] at h3
    exact ol_ix.mp hn (ol_mem.mpr ⟨i, by omega, by omega⟩)
theorem Pn.ol {o o' : OD} (h : ∀ x ∈ ol o', x ∈ ol o ∨ (0 ≤ x ∧ x < 12)) (hp : Pn o) : Pn o' := fun x hx => (h x hx).elim (fun q => hp x q) (fun q => q)
theorem fc_list {c : Nat → Bool} {o : OD} (h : DI o) (hp : Pn o) : ∀ n, n ≤ 12 → ol (fc c o n) = (ol o).filter (fun y => decide ((n : Int) ≤ y) || c y.toNat) ++ ((List.range n).filter (fun k => c k && decide (o_ix o k = -1))).map (fun k : Nat => (k : Int)) ∧ DI (fc c o n) ∧ Pn (fc c o n)
  | 0, _ => by
    refine ⟨?_, h, hp⟩
    show ol o = _
    rw [List.filter_eq_self.mpr (fun y hy => by have := hp y hy; simp; omega)]
    simp
  | n + 1, hn => by
    obtain ⟨ih, di, pn⟩ := fc_list h hp n (by omega)
    unfold fc
    have memn : ∀ y : Int, y ∈ ((List.range n).filter (fun k => c k && decide (o_ix o k = -1))).map (fun k : Nat => (k : Int)) → y ≠ n := fun y hy z => by
      obtain ⟨k, hk, e⟩ := List.mem_map.mp hy
      have := List.mem_range.mp (List.mem_filter.mp hk).1
      omega
    have fsame : ((List.range n).filter (fun k => c k && decide (o_ix o k = -1))).map (fun k : Nat => (k : Int)) = (((List.range n).filter (fun k => c k && decide (o_ix o k = -1))).map (fun k : Nat => (k : Int))).filter (fun y => decide (y ≠ (n : Int))) := by
      symm
      rw [List.filter_eq_self]
      intro a ha
      rw [decide_eq_true_eq]
      exact memn a ha
    by_cases cn : c n = true
    · have f1 : (ol o).filter (fun y => decide ((n : Int) ≤ y) || c y.toNat) = (ol o).filter (fun y => decide (((n + 1 : Nat) : Int) ≤ y) || c y.toNat) := by
        refine List.filter_congr (fun y hy => ?_)
        have := hp y hy
        by_cases z : y = n
        · rw [z, Int.toNat_natCast, cn]
          simp
        · have : decide ((n : Int) ≤ y) = decide (((n + 1 : Nat) : Int) ≤ y) := decide_eq_decide.mpr (by omega)
          rw [this]
      have ixn : o_ix (fc c o n) n = -1 ↔ o_ix o n = -1 := by
        rw [ol_ix, ol_ix, ih]
        refine not_congr ?_
        rw [List.mem_append, List.mem_filter]
        constructor
        · rintro (q | q)
          · exact q.1
          · exact absurd rfl (memn _ q)
        · intro q
          exact Or.inl ⟨q, by simp⟩
      rw [if_pos cn]
      by_cases q : o_ix o n = -1
      · rw [if_pos (ixn.mpr q)]
        obtain ⟨p1, p2⟩ := ol_pl di (n : Int) (pn.le di (by omega) (ixn.mpr q))
        have e0 : (ol (fc c o n)).filter (fun y => decide (y ≠ (n : Int))) = ol (fc c o n) := by
          rw [List.filter_eq_self]
          intro a ha
          rw [decide_eq_true_eq]
          intro z
          rw [z] at ha
          exact ol_ix.mp (ixn.mpr q) ha
        rw [e0, ih] at p1
        refine ⟨?_, p2, fun x hx => ?_⟩
        · rw [p1, f1, List.range_succ, List.filter_append, List.map_append]
          simp [cn, q]
        · rw [p1, ← ih, List.mem_append] at hx
          rcases hx with hx | hx
          · exact pn x hx
          · rw [List.mem_singleton] at hx
            omega
      · rw [if_neg (fun z => q (ixn.mp z))]
        refine ⟨?_, di, pn⟩
        rw [ih, f1, List.range_succ, List.filter_append, List.map_append]
        simp [q]
    · have cn' : c n = false := by simpa using cn
      rw [if_neg cn]
      obtain ⟨p1, p2⟩ := ol_lv di (n : Int)
      refine ⟨?_, p2, fun x hx => ?_⟩
      · rw [p1, ih, List.filter_append, ← fsame, List.filter_filter, List.range_succ, List.filter_append, List.map_append]
        simp only [List.filter_cons, List.filter_nil, cn', Bool.false_and, Bool.false_eq_true, if_false, List.map_nil, List.append_nil]
        congr 1
        refine List.filter_congr (fun y hy => ?_)
        have := hp y hy
        by_cases z : y = n
        · rw [z, Int.toNat_natCast, cn']
          simp
          omega
        · have : decide ((n : Int) ≤ y) = decide (((n + 1 : Nat) : Int) ≤ y) := decide_eq_decide.mpr (by omega)
          rw [this]
          simp [z]
      · rw [p1] at hx
        exact pn x (List.mem_filter.mp hx).1
theorem fl1_list {c : Nat → Bool} {o : OD} (h : DI o) (hp : Pn o) : ∀ n, n ≤ 12 → ol (fl1 c o n) = (ol o).filter (fun y => decide ((n : Int) ≤ y) || c y.toNat) ∧ DI (fl1 c o n) ∧ Pn (fl1 c o n)
  | 0, _ => by
    refine ⟨?_, h, hp⟩
    show ol o = _
    rw [List.filter_eq_self.mpr (fun y hy => by have := hp y hy; simp; omega)]
  | n + 1, hn => by
    obtain ⟨ih, di, pn⟩ := fl1_list h hp n (by omega)
    unfold fl1
    by_cases cn : c n = true
    · rw [if_pos cn]
      refine ⟨?_, di, pn⟩
      rw [ih]
      refine List.filter_congr (fun y hy => ?_)
      have := hp y hy
      by_cases z : y = n
      · rw [z, Int.toNat_natCast, cn]
        simp
      · have : decide ((n : Int) ≤ y) = decide (((n + 1 : Nat) : Int) ≤ y) := decide_eq_decide.mpr (by omega)
        rw [this]
    · have cn' : c n = false := by simpa using cn
      rw [if_neg cn]
      obtain ⟨p1, p2⟩ := ol_lv di (n : Int)
      refine ⟨?_, p2, fun x hx => ?_⟩
      · rw [p1, ih, List.filter_filter]
        refine List.filter_congr (fun y hy => ?_)
        have := hp y hy
        by_cases z : y = n
        · rw [z, Int.toNat_natCast, cn']
          simp
          omega
        · have : decide ((n : Int) ≤ y) = decide (((n + 1 : Nat) : Int) ≤ y) := decide_eq_decide.mpr (by omega)
          rw [this]
          simp [z]
      · rw [p1] at hx
        exact pn x (List.mem_filter.mp hx).1
theorem fl2_list {c : Nat → Bool} {o : OD} (h : DI o) (hp : Pn o) : ∀ n, n ≤ 12 → ol (fl2 c o n) = ol o ++ ((List.range n).filter (fun k => c k && decide (o_ix o k = -1))).map (fun k : Nat => (k : Int)) ∧ DI (fl2 c o n) ∧ Pn (fl2 c o n)
  | 0, _ => ⟨by show ol o = _; simp, h, hp⟩
  | n + 1, hn => by
    obtain ⟨ih, di, pn⟩ := fl2_list h hp n (by omega)
    unfold fl2
    have ixn : o_ix (fl2 c o n) n = -1 ↔ o_ix o n = -1 := by
      rw [ol_ix, ol_ix, ih]
      refine not_congr ?_
      rw [List.mem_append]
      constructor
      · rintro (q | q)
        · exact q
        · obtain ⟨k, hk, e⟩ := List.mem_map.mp q
          have := List.mem_range.mp (List.mem_filter.mp hk).1
          omega
      · exact Or.inl
    by_cases q : c n = true ∧ o_ix o n = -1
    · rw [if_pos (by simp [q.1, ixn.mpr q.2])]
      obtain ⟨p1, p2⟩ := ol_pl di (n : Int) (pn.le di (by omega) (ixn.mpr q.2))
      have e0 : (ol (fl2 c o n)).filter (fun y => decide (y ≠ (n : Int))) = ol (fl2 c o n) := by
        rw [List.filter_eq_self]
        intro a ha
        rw [decide_eq_true_eq]
        intro z
        rw [z] at ha
        exact ol_ix.mp (ixn.mpr q.2) ha
      rw [e0] at p1
      refine ⟨?_, p2, fun x hx => ?_⟩
      · rw [p1, ih, List.range_succ, List.filter_append, List.map_append]
        simp [q.1, q.2]
      · rw [p1, List.mem_append] at hx
        rcases hx with hx | hx
        · exact pn x hx
        · rw [List.mem_singleton] at hx
          omega
    · rw [if_neg (fun z => by
        simp only [Bool.and_eq_true, decide_eq_true_eq] at z
        exact q ⟨z.1, ixn.mp z.2⟩)]
      refine ⟨?_, di, pn⟩
      rw [ih, List.range_succ, List.filter_append, List.map_append]
      have : (c n && decide (o_ix o n = -1)) = false := by
        rw [Bool.eq_false_iff]
        intro z
        simp only [Bool.and_eq_true, decide_eq_true_eq] at z
        exact q z
      simp [this]
/-- both ways come to the same order -/
theorem settle_same {c : Nat → Bool} {o : OD} (h : DI o) (hp : Pn o) : OE (fc c o 12) (fl2 c (fl1 c o 12) 12) := by
  obtain ⟨a1, a2, a3⟩ := fc_list (c := c) h hp 12 (Nat.le_refl _)
  obtain ⟨b1, b2, b3⟩ := fl1_list (c := c) h hp 12 (Nat.le_refl _)
  obtain ⟨c1, c2, c3⟩ := fl2_list (c := c) b2 b3 12 (Nat.le_refl _)
  have k1 := a2.1
  have k2 := c2.1
  unfold OkO at k1 k2
  refine ol_OE ?_ k1.1 k2.1
  rw [a1, c1, b1]
  congr 1
  congr 1
  refine List.filter_congr (fun k hk => ?_)
  have hk := List.mem_range.mp hk
  by_cases q : c k = true
  · have : (o_ix o k = -1) ↔ (o_ix (fl1 c o 12) k = -1) := by
      rw [ol_ix, ol_ix, b1]
      refine not_congr ?_
      rw [List.mem_filter]
      constructor
      · intro z
        exact ⟨z, by simp [q]⟩
      · exact fun z => z.1
    rw [decide_eq_decide.mpr this]
  · have : c k = false := by simpa using q
    simp [this]

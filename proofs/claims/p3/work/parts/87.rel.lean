/-! THE RELATION: sizes, told by equations -/
/-- the greatest of f over those chosen, at least 0 -/
def gx (c : Nat → Bool) (f : Nat → Int) : Nat → Int
  | 0 => 0
  | n + 1 => if c n then (if gx c f n < f n then f n else gx c f n) else gx c f n
theorem gx_congr {c d : Nat → Bool} {f g : Nat → Int} : ∀ {n : Nat}, (∀ i, i < n → c i = d i ∧ (c i = true → f i = g i)) → gx c f n = gx d g n
  | 0, _ => rfl
  | n + 1, h => by
    obtain ⟨a, b⟩ := h n (by omega)
    have r := gx_congr (n := n) (fun i hi => h i (by omega))
    unfold gx
    rw [← a, r]
    cases q : c n
    · rfl
    · rw [b q]
/-- the steps from a node up to its root -/
def dq (V : VW) (n : Nat) : Nat := (fnd (fun k => decide (ga (V 9) 23 (v_top V k n) = -1)) 23).toNat
/-- a split's children, in their order -/
def kids (V : VW) (n : Nat) : List Nat := (List.range (v_cc V n)).map (fun k : Nat => (v_ca V n k).toNat)
section KD
variable {V : VW} {d : Nat → Nat} {wn : Nat → Int} {X : Nat → Bool}
theorem Tree.dqs (h : Tree V d wn X) {n : Nat} (hn : n < 23) (hu : V 8 n ≠ 3) : dq V n ≤ 22 ∧ ga (V 9) 23 (v_top V (dq V n) n) = -1 ∧ ∀ j, j < dq V n → ga (V 9) 23 (v_top V j n) ≠ -1 := by
  obtain ⟨k, m, hk, hm, e, -, r, -⟩ := h.dep hn hu
  rcases fnd_spec (fun k => decide (ga (V 9) 23 (v_top V k n) = -1)) 23 with ⟨-, q⟩ | ⟨i, hi, e1, e2, e3⟩
  · have := q k (by omega)
    rw [e, ga_in hm, r] at this
    cases this
  · have : dq V n = i := by
      unfold dq
      rw [e1]
      rfl
    rw [this]
    refine ⟨by omega, of_decide_eq_true e2, fun j hj => of_decide_eq_false (e3 j hj)⟩
theorem v_top_ch {n s : Nat} (hn : n < 23) (e : V 9 n = s) (k : Nat) : v_top V (k + 1) n = v_top V k s := by
  show (if ga (V 9) 23 n = -1 then (n : Int) else v_top V k (ga (V 9) 23 n)) = _
  rw [ga_in hn, e, if_neg (by omega)]
theorem Tree.dqr (h : Tree V d wn X) {n : Nat} (hn : n < 23) (e : V 9 n = -1) : dq V n = 0 := by
  unfold dq
  rw [fnd_at (i := 0) (by decide) (by
    show decide (ga (V 9) 23 (n : Int) = -1) = true
    rw [ga_in hn, e]
    rfl) (fun k hk => absurd hk (by omega))]
  rfl
theorem Tree.dqc (h : Tree V d wn X) {n s : Nat} (hn : n < 23) (e : V 9 n = s) : dq V n = dq V s + 1 := by
  have hu := h.us hn (by rw [e]; omega)
  obtain ⟨hs, ks, -, -⟩ := h.par hn e
  obtain ⟨a, b, c⟩ := h.dqs hn hu
  obtain ⟨a2, b2, c2⟩ := h.dqs hs (by omega)
  have n0 : dq V n ≠ 0 := fun z => by
    rw [z] at b
    have b : ga (V 9) 23 (n : Int) = -1 := b
    rw [ga_in hn, e] at b
    omega
  obtain ⟨k, hk⟩ : ∃ k, dq V n = k + 1 := ⟨dq V n - 1, by omega⟩
  rw [hk]
  rw [hk, v_top_ch hn e] at b
  rcases Nat.lt_trichotomy k (dq V s) with q | q | q
  · exact absurd b (c2 k q)
  · rw [q]
  · have := c (dq V s + 1) (by omega)
    rw [v_top_ch hn e] at this
    exact absurd b2 this
theorem Tree.kid (h : Tree V d wn X) {s : Nat} (hs : s < 23) (ks : V 8 s ≤ 1) {k : Nat} (hk : k < v_cc V s) : ∃ c : Nat, c < 23 ∧ v_ca V s k = c ∧ V 9 c = s ∧ V 10 c = k ∧ (kids V s)[k]? = some c := by
  obtain ⟨⟨-, nu, un⟩, -⟩ := h.sp hs ks
  have ec : v_cc V s = cnt (fun n => decide (V 9 n = s)) 23 := by
    unfold v_cc
    rw [if_neg (by omega)]
  obtain ⟨c, hc, e1, e2⟩ := nu k (by omega)
  have e1' := of_decide_eq_true e1
  have ea : v_ca V s k = c := by
    unfold v_ca
    rw [if_neg (by omega)]
    refine fnd_un hc (by rw [decide_eq_true e1', decide_eq_true e2]; rfl) (fun j hj z => ?_)
    simp only [Bool.and_eq_true, decide_eq_true_eq] at z
    exact un j c hj hc (decide_eq_true z.1) e1 (by rw [z.2, e2])
  refine ⟨c, hc, ea, e1', e2, ?_⟩
  unfold kids
  rw [List.getElem?_map, List.getElem?_range hk]
  show some (v_ca V s k).toNat = _
  rw [ea]
  rfl
theorem kids_len {s : Nat} : (kids V s).length = v_cc V s := by
  unfold kids
  rw [List.length_map, List.length_range]
theorem Tree.kids_mem (h : Tree V d wn X) {s : Nat} (hs : s < 23) (ks : V 8 s ≤ 1) {c : Nat} : c ∈ kids V s ↔ c < 23 ∧ V 9 c = s := by
  refine ⟨fun q => ?_, fun ⟨hc, e⟩ => ?_⟩
  · obtain ⟨k, hk⟩ := List.mem_iff_getElem?.mp q
    have lt : k < v_cc V s := by
      rw [← kids_len]
      exact (List.getElem?_eq_some_iff.mp hk).1
    obtain ⟨x, a, -, b, -, e⟩ := h.kid hs ks lt
    rw [e] at hk
    have : x = c := Option.some.inj hk
    subst this
    exact ⟨a, b⟩
  · obtain ⟨⟨rg, nu, un⟩, -⟩ := h.sp hs ks
    obtain ⟨r1, r2⟩ := rg c hc (decide_eq_true e)
    have ec : v_cc V s = cnt (fun n => decide (V 9 n = s)) 23 := by
      unfold v_cc
      rw [if_neg (by omega)]
    obtain ⟨x, a, -, b, p, e2⟩ := h.kid hs ks (k := (V 10 c).toNat) (by omega)
    have : x = c := un x c a hc (decide_eq_true b) (decide_eq_true e) (by omega)
    subst this
    exact List.mem_iff_getElem?.mpr ⟨_, e2⟩
theorem Tree.kids_nd (h : Tree V d wn X) {s : Nat} (hs : s < 23) (ks : V 8 s ≤ 1) : (kids V s).Nodup := by
  refine List.pairwise_iff_getElem.mpr (fun i j hi hj hij e => ?_)
  have gi := List.getElem?_eq_getElem hi
  have gj := List.getElem?_eq_getElem hj
  rw [kids_len] at hi hj
  obtain ⟨x, -, -, -, px, ex⟩ := h.kid hs ks (k := i) (by omega)
  obtain ⟨y, -, -, -, py, ey⟩ := h.kid hs ks (k := j) hj
  rw [ex] at gi
  rw [ey] at gj
  have : x = y := by rw [Option.some.inj gi, Option.some.inj gj, e]
  subst this
  omega
end KD
/-- the sum over a list -/
def Sm (f : Nat → Int) : List Nat → Int
  | [] => 0
  | c :: t => f c + Sm f t
/-- sums over a list without repeats are sums over the nodes -/
theorem list_sm (g : Nat → Int) {N : Nat} : ∀ {l : List Nat}, l.Nodup → (∀ x ∈ l, x < N) → Sm g l = sm (fun i => if i ∈ l then g i else 0) N
  | [], _, _ => by
    rw [show (fun i => if i ∈ ([] : List Nat) then g i else 0) = fun _ => 0 from by funext i; simp, sm_0]
    rfl
  | x :: t, hd, hm => by
    rw [List.nodup_cons] at hd
    have r := list_sm g (N := N) hd.2 (fun y hy => hm y (List.mem_cons_of_mem _ hy))
    unfold Sm
    rw [r]
    have := sm_one (g := fun i => if i ∈ t then g i else 0) (h := fun i => if i ∈ x :: t then g i else 0) (i0 := x) (n := N) (hm x (List.mem_cons_self ..)) (fun i _ ne => by
      show (if i ∈ t then g i else 0) = if i ∈ x :: t then g i else 0
      have : (i ∈ x :: t) ↔ i ∈ t := by simp [ne]
      by_cases q : i ∈ t
      · rw [if_pos q, if_pos (this.mpr q)]
      · rw [if_neg q, if_neg (fun z => q (this.mp z))])
    rw [this, if_pos (List.mem_cons_self ..), if_neg hd.1]
    omega
/-- the greatest over a list -/
def lgx (f : Nat → Int) : List Nat → Int
  | [] => 0
  | x :: t => if lgx f t < f x then f x else lgx f t
theorem lgx_le (f : Nat → Int) : ∀ {l : List Nat}, 0 ≤ lgx f l ∧ (∀ x ∈ l, f x ≤ lgx f l) ∧ (lgx f l = 0 ∨ ∃ x ∈ l, lgx f l = f x)
  | [] => ⟨Int.le_refl _, fun x hx => (by cases hx), Or.inl rfl⟩
  | y :: t => by
    obtain ⟨a, b, c⟩ := lgx_le f (l := t)
    unfold lgx
    by_cases q : lgx f t < f y
    · rw [if_pos q]
      refine ⟨by omega, fun x hx => ?_, Or.inr ⟨y, List.mem_cons_self .., rfl⟩⟩
      rcases List.mem_cons.mp hx with rfl | z
      · exact Int.le_refl _
      · have := b x z
        omega
    · rw [if_neg q]
      refine ⟨a, fun x hx => ?_, c.elim Or.inl (fun ⟨x, hx, e⟩ => Or.inr ⟨x, List.mem_cons_of_mem _ hx, e⟩)⟩
      rcases List.mem_cons.mp hx with rfl | z
      · omega
      · exact b x z
theorem gx_le (c : Nat → Bool) (f : Nat → Int) : ∀ n, 0 ≤ gx c f n ∧ (∀ x, x < n → c x = true → f x ≤ gx c f n) ∧ (gx c f n = 0 ∨ ∃ x, x < n ∧ c x = true ∧ gx c f n = f x)
  | 0 => ⟨Int.le_refl _, fun x hx => absurd hx (by omega), Or.inl rfl⟩
  | n + 1 => by
    obtain ⟨a, b, r⟩ := gx_le c f n
    unfold gx
    cases q : c n
    · rw [if_neg (by decide)]
      refine ⟨a, fun x hx hc => ?_, r.elim Or.inl (fun ⟨x, hx, e⟩ => Or.inr ⟨x, by omega, e⟩)⟩
      have : x ≠ n := fun z => by rw [z, q] at hc; cases hc
      exact b x (by omega) hc
    · rw [if_pos rfl]
      by_cases z : gx c f n < f n
      · rw [if_pos z]
        refine ⟨by omega, fun x hx hc => ?_, Or.inr ⟨n, by omega, q, rfl⟩⟩
        by_cases y : x = n
        · rw [y]
          exact Int.le_refl _
        · have := b x (by omega) hc
          omega
      · rw [if_neg z]
        refine ⟨a, fun x hx hc => ?_, r.elim Or.inl (fun ⟨x, hx, e⟩ => Or.inr ⟨x, by omega, e⟩)⟩
        by_cases y : x = n
        · rw [y]
          omega
        · exact b x (by omega) hc
theorem lgx_gx (f : Nat → Int) {l : List Nat} {N : Nat} (c : Nat → Bool) (h : ∀ x, x ∈ l ↔ x < N ∧ c x = true) : lgx f l = gx c f N := by
  obtain ⟨a, b, r⟩ := lgx_le f (l := l)
  obtain ⟨a2, b2, r2⟩ := gx_le c f N
  have h1 : lgx f l ≤ gx c f N := by
    rcases r with z | ⟨x, hx, e⟩
    · omega
    · have := b2 x ((h x).mp hx).1 ((h x).mp hx).2
      omega
  have h2 : gx c f N ≤ lgx f l := by
    rcases r2 with z | ⟨x, hx, hc, e⟩
    · omega
    · have := b x ((h x).mpr ⟨hx, hc⟩)
      omega
  omega
theorem lgx_snoc (f : Nat → Int) (y : Nat) : ∀ (l : List Nat), lgx f (l ++ [y]) = if lgx f l < f y then f y else lgx f l := by
  intro l
  obtain ⟨a, b, r⟩ := lgx_le f (l := l)
  obtain ⟨a2, b2, r2⟩ := lgx_le f (l := l ++ [y])
  have y2 := b2 y (by simp)
  have l2 : ∀ x ∈ l, f x ≤ lgx f (l ++ [y]) := fun x hx => b2 x (by simp [hx])
  have u : lgx f (l ++ [y]) = 0 ∨ lgx f (l ++ [y]) = f y ∨ ∃ x ∈ l, lgx f (l ++ [y]) = f x := by
    rcases r2 with z | ⟨x, hx, e⟩
    · exact Or.inl z
    · rcases List.mem_append.mp hx with q | q
      · exact Or.inr (Or.inr ⟨x, q, e⟩)
      · have : x = y := by simpa using q
        exact Or.inr (Or.inl (by rw [e, this]))
  have lo : lgx f l ≤ lgx f (l ++ [y]) := by
    rcases r with z | ⟨x, hx, e⟩
    · omega
    · have := l2 x hx
      omega
  rcases u with z | z | ⟨x, hx, e⟩
  · split <;> omega
  · split <;> omega
  · have := b x hx
    split <;> omega
/-- how many members of a list there are -/
theorem list_cnt {N : Nat} {l : List Nat} (c : Nat → Bool) (hd : l.Nodup) (h : ∀ x, x ∈ l ↔ x < N ∧ c x = true) : (l.length : Int) = cnt c N := by
  have e := list_sm (fun _ => 1) (N := N) hd (fun x hx => ((h x).mp hx).1)
  have l1 : Sm (fun _ => (1 : Int)) l = l.length := by
    clear hd h e
    induction l with
    | nil => rfl
    | cons x t ih =>
      unfold Sm
      rw [ih, List.length_cons]
      omega
  rw [← l1, e, ← sm_cnt]
  refine sm_congr (fun i hi => ?_)
  by_cases q : i ∈ l
  · rw [if_pos q, if_pos ((h i).mp q).2]
  · rw [if_neg q, if_neg (fun z => q ((h i).mpr ⟨hi, z⟩))]
theorem Sm_congr {f g : Nat → Int} : ∀ {l : List Nat}, (∀ c ∈ l, f c = g c) → Sm f l = Sm g l
  | [], _ => rfl
  | c :: t, h => by
    unfold Sm
    rw [h c (List.mem_cons_self ..), Sm_congr (l := t) (fun x hx => h x (List.mem_cons_of_mem _ hx))]
theorem Sm_add (f g : Nat → Int) : ∀ (l : List Nat), Sm (fun c => f c + g c) l = Sm f l + Sm g l
  | [] => rfl
  | c :: t => by
    unfold Sm
    rw [Sm_add f g t]
    omega
theorem Sm_le {f g : Nat → Int} : ∀ {l : List Nat}, (∀ c ∈ l, f c ≤ g c) → Sm f l ≤ Sm g l
  | [], _ => Int.le_refl _
  | c :: t, h => by
    unfold Sm
    have := h c (List.mem_cons_self ..)
    have := Sm_le (l := t) (fun x hx => h x (List.mem_cons_of_mem _ hx))
    omega
theorem Sm_lt {f g : Nat → Int} : ∀ {l : List Nat} {x : Nat}, (∀ c ∈ l, f c ≤ g c) → x ∈ l → f x < g x → Sm f l < Sm g l
  | [], _, _, hx, _ => by cases hx
  | c :: t, x, h, hx, lt => by
    unfold Sm
    have a := h c (List.mem_cons_self ..)
    have b := Sm_le (l := t) (fun x hx => h x (List.mem_cons_of_mem _ hx))
    rcases List.mem_cons.mp hx with rfl | z
    · omega
    · have := Sm_lt (l := t) (fun x hx => h x (List.mem_cons_of_mem _ hx)) z lt
      omega
theorem Sm_0 : ∀ (l : List Nat), Sm (fun _ => 0) l = 0
  | [] => rfl
  | c :: t => by
    unfold Sm
    rw [Sm_0 t]
    rfl
theorem Sm_nn {f : Nat → Int} {l : List Nat} (h : ∀ c ∈ l, 0 ≤ f c) : 0 ≤ Sm f l := by
  rw [← Sm_0 l]
  exact Sm_le h
theorem Sm_mul (a : Int) (f : Nat → Int) : ∀ (l : List Nat), Sm (fun c => a * f c) l = a * Sm f l
  | [] => by
    unfold Sm
    rw [Int.mul_zero]
  | c :: t => by
    unfold Sm
    rw [Sm_mul a f t, Int.mul_add]
theorem Sm_mem {f : Nat → Int} : ∀ {l : List Nat} {x : Nat}, (∀ c ∈ l, 0 ≤ f c) → x ∈ l → f x ≤ Sm f l
  | [], _, _, hx => by cases hx
  | c :: t, x, h, hx => by
    unfold Sm
    have a := h c (List.mem_cons_self ..)
    have b := Sm_nn (l := t) (fun x hx => h x (List.mem_cons_of_mem _ hx))
    rcases List.mem_cons.mp hx with rfl | z
    · omega
    · have := Sm_mem (l := t) (fun x hx => h x (List.mem_cons_of_mem _ hx)) z
      omega
theorem Sm_app (f : Nat → Int) : ∀ (l t : List Nat), Sm f (l ++ t) = Sm f l + Sm f t
  | [], t => by
    show Sm f t = 0 + Sm f t
    omega
  | c :: l, t => by
    show f c + Sm f (l ++ t) = f c + Sm f l + Sm f t
    rw [Sm_app f l t]
    omega
/-- one member's value changes -/
theorem Sm_one {f g : Nat → Int} : ∀ {l : List Nat} {x : Nat}, l.Nodup → x ∈ l → (∀ c ∈ l, c ≠ x → f c = g c) → Sm g l = Sm f l + (g x - f x)
  | [], _, _, hx, _ => by cases hx
  | c :: t, x, hd, hx, h => by
    unfold Sm
    rw [List.nodup_cons] at hd
    by_cases q : c = x
    · subst q
      rw [Sm_congr (f := f) (g := g) (l := t) (fun y hy => h y (List.mem_cons_of_mem _ hy) (fun z => hd.1 (z ▸ hy)))]
      omega
    · have : x ∈ t := by
        rcases List.mem_cons.mp hx with rfl | z
        · exact absurd rfl q
        · exact z
      rw [Sm_one hd.2 this (fun y hy => h y (List.mem_cons_of_mem _ hy)), h c (List.mem_cons_self ..) q]
      omega

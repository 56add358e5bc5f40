/-! THE RELATION: trees -/
/-- d: ranks, wn: the windows of the nodes; the splits of X may have less than two children -/
def Tree (V : VW) (d : Nat → Nat) (wn : Nat → Int) (X : Nat → Bool) : Prop :=
  (∀ n, n < 23 → 0 ≤ V 8 n ∧ V 8 n ≤ 3) ∧
  (∀ n, n < 23 → V 8 n = 3 → V 9 n = -1) ∧
  (∀ n, n < 23 → V 9 n ≠ -1 → ∃ s : Nat, s < 23 ∧ V 9 n = s ∧ V 8 s ≤ 1 ∧ d s < d n ∧ wn n = wn s) ∧
  (∀ n, n < 23 → V 8 n ≠ 3 → V 9 n = -1 → ∃ w : Nat, w < 5 ∧ wn n = w ∧ V 5 w = n) ∧
  (∀ w : Nat, w < 5 → V 5 w = -1 ∨ ∃ n : Nat, n < 23 ∧ V 5 w = n ∧ V 8 n ≠ 3 ∧ V 9 n = -1 ∧ wn n = w) ∧
  (∀ s : Nat, s < 23 → V 8 s ≤ 1 → Nmb 23 (fun n => decide (V 9 n = s)) (V 10) ∧ (X s = false → 2 ≤ cnt (fun n => decide (V 9 n = s)) 23)) ∧
  ∀ n, n < 23 → V 9 n ≠ -1 → 1 ≤ V 11 n ∧ V 11 n ≤ 1000000
section TR
variable {V V' : VW} {d : Nat → Nat} {wn : Nat → Int} {X : Nat → Bool}
theorem Tree.ki (h : Tree V d wn X) {n : Nat} (hn : n < 23) : 0 ≤ V 8 n ∧ V 8 n ≤ 3 := h.1 n hn
theorem Tree.fr (h : Tree V d wn X) {n : Nat} (hn : n < 23) (q : V 8 n = 3) : V 9 n = -1 := h.2.1 n hn q
theorem Tree.pa (h : Tree V d wn X) {n : Nat} (hn : n < 23) (q : V 9 n ≠ -1) : ∃ s : Nat, s < 23 ∧ V 9 n = s ∧ V 8 s ≤ 1 ∧ d s < d n ∧ wn n = wn s := h.2.2.1 n hn q
theorem Tree.ro (h : Tree V d wn X) {n : Nat} (hn : n < 23) (q : V 8 n ≠ 3) (q2 : V 9 n = -1) : ∃ w : Nat, w < 5 ∧ wn n = w ∧ V 5 w = n := h.2.2.2.1 n hn q q2
theorem Tree.wi (h : Tree V d wn X) {w : Nat} (hw : w < 5) : V 5 w = -1 ∨ ∃ n : Nat, n < 23 ∧ V 5 w = n ∧ V 8 n ≠ 3 ∧ V 9 n = -1 ∧ wn n = w := h.2.2.2.2.1 w hw
theorem Tree.sp (h : Tree V d wn X) {s : Nat} (hs : s < 23) (q : V 8 s ≤ 1) : Nmb 23 (fun n => decide (V 9 n = s)) (V 10) ∧ (X s = false → 2 ≤ cnt (fun n => decide (V 9 n = s)) 23) := h.2.2.2.2.2.1 s hs q
theorem Tree.we (h : Tree V d wn X) {n : Nat} (hn : n < 23) (q : V 9 n ≠ -1) : 1 ≤ V 11 n ∧ V 11 n ≤ 1000000 := h.2.2.2.2.2.2 n hn q
theorem Tree.us (h : Tree V d wn X) {n : Nat} (hn : n < 23) (q : V 9 n ≠ -1) : V 8 n ≠ 3 := fun z => q (h.fr hn z)
theorem Tree.par {n s : Nat} (h : Tree V d wn X) (hn : n < 23) (q : V 9 n = s) : s < 23 ∧ V 8 s ≤ 1 ∧ d s < d n ∧ wn n = wn s := by
  obtain ⟨t, h1, h2, h3, h4, h5⟩ := h.pa hn (by omega)
  have : t = s := by omega
  subst this
  exact ⟨h1, h3, h4, h5⟩
theorem Tree.cg (h : Tree V d wn X) (h8 : ∀ n, n < 23 → V' 8 n = V 8 n) (h9 : ∀ n, n < 23 → V' 9 n = V 9 n) (h10 : ∀ n, n < 23 → V' 10 n = V 10 n) (h11 : ∀ n, n < 23 → V 9 n ≠ -1 → 1 ≤ V' 11 n ∧ V' 11 n ≤ 1000000) (h5 : ∀ w, w < 5 → V' 5 w = V 5 w) : Tree V' d wn X := by
  refine ⟨fun n hn => by rw [h8 n hn]; exact h.ki hn, fun n hn q => ?_, fun n hn q => ?_, fun n hn q q2 => ?_, fun w hw => ?_, fun s hs q => ?_, fun n hn q => ?_⟩
  · rw [h9 n hn]
    exact h.fr hn (by rw [← h8 n hn]; exact q)
  · rw [h9 n hn] at q ⊢
    obtain ⟨s, a, b, c⟩ := h.pa hn q
    exact ⟨s, a, b, by rw [h8 s a]; exact c⟩
  · rw [h8 n hn] at q
    rw [h9 n hn] at q2
    obtain ⟨w, a, b, c⟩ := h.ro hn q q2
    exact ⟨w, a, b, by rw [h5 w a]; exact c⟩
  · rw [h5 w hw]
    rcases h.wi hw with a | ⟨n, hn, a, b, c, e⟩
    · exact Or.inl a
    · exact Or.inr ⟨n, hn, a, by rw [h8 n hn]; exact b, by rw [h9 n hn]; exact c, e⟩
  · rw [h8 s hs] at q
    obtain ⟨a, b⟩ := h.sp hs q
    have c : ∀ i, i < 23 → decide (V' 9 i = (s : Int)) = decide (V 9 i = (s : Int)) := fun i hi => by rw [h9 i hi]
    exact ⟨a.cg c (fun i hi _ => h10 i hi), fun q => by rw [cnt_congr c]; exact b q⟩
  · rw [h9 n hn] at q
    exact h11 n hn q
/-- up from node n -/
theorem v_top_nx (V : VW) : ∀ (k : Nat) (n : Int), v_top V (k + 1) n = if ga (V 9) 23 (v_top V k n) = -1 then v_top V k n else ga (V 9) 23 (v_top V k n)
  | 0, n => rfl
  | k + 1, n => by
    show (if ga (V 9) 23 n = -1 then n else v_top V (k + 1) (ga (V 9) 23 n)) = _
    by_cases q : ga (V 9) 23 n = -1
    · rw [if_pos q]
      have : v_top V (k + 1) n = n := by unfold v_top; rw [if_pos q]
      rw [this, if_pos q]
    · rw [if_neg q, v_top_nx V k]
      have : v_top V (k + 1) n = v_top V k (ga (V 9) 23 n) := by
        show (if ga (V 9) 23 n = -1 then n else _) = _
        rw [if_neg q]
      rw [this]
theorem v_top_st (V : VW) {n : Int} {k : Nat} (h : ga (V 9) 23 (v_top V k n) = -1) : ∀ m, v_top V (k + m) n = v_top V k n
  | 0 => rfl
  | m + 1 => by
    show v_top V (k + m + 1) n = _
    rw [v_top_nx, v_top_st V h m, if_pos h]
theorem Tree.nx (h : Tree V d wn X) {n : Nat} (hn : n < 23) (hu : V 8 n ≠ 3) : ∀ k, ∃ m : Nat, m < 23 ∧ v_top V k n = m ∧ V 8 m ≠ 3 ∧ wn m = wn n
  | 0 => ⟨n, hn, rfl, hu, rfl⟩
  | k + 1 => by
    obtain ⟨m, h1, h2, h3, h4⟩ := h.nx hn hu k
    rw [v_top_nx, h2, ga_in h1]
    by_cases q : V 9 m = -1
    · rw [if_pos q]
      exact ⟨m, h1, rfl, h3, h4⟩
    · rw [if_neg q]
      obtain ⟨s, a, b, c, e, f⟩ := h.pa h1 q
      exact ⟨s, a, b, by omega, by rw [← f, h4]⟩
/-- no node lies deeper than 22 -/
theorem Tree.dep (h : Tree V d wn X) {n : Nat} (hn : n < 23) (hu : V 8 n ≠ 3) : ∃ (k m : Nat), k ≤ 22 ∧ m < 23 ∧ v_top V k n = m ∧ V 8 m ≠ 3 ∧ V 9 m = -1 ∧ wn m = wn n := by
  refine Classical.byContradiction (fun no => ?_)
  have up1 : ∀ k, k ≤ 22 → ∀ m : Nat, m < 23 → v_top V k n = m → V 9 m ≠ -1 := by
    intro k hk m hm e q
    obtain ⟨m', a, b, c, e'⟩ := h.nx hn hu k
    have : m' = m := by omega
    subst this
    exact no ⟨k, m', hk, a, b, c, q, e'⟩
  have dec : ∀ k j, k < j → j ≤ 23 → d (v_top V j n).toNat < d (v_top V k n).toNat := by
    intro k j hkj
    induction j with
    | zero => omega
    | succ j ih =>
      intro hj
      obtain ⟨m, a, b, c, e⟩ := h.nx hn hu j
      have q := up1 j (by omega) m a b
      have e2 : v_top V (j + 1) n = V 9 m := by rw [v_top_nx, b, ga_in a, if_neg q]
      obtain ⟨s, s1, s2, s3, s4, s5⟩ := h.pa a q
      have e3 : d (v_top V (j + 1) n).toNat < d (v_top V j n).toNat := by
        rw [e2, s2, b]
        exact s4
      by_cases z : k = j
      · rw [z]; exact e3
      · have := ih (by omega) (by omega)
        omega
  obtain ⟨i, k, h1, h2, h3⟩ := pigeon 23 (fun i => (v_top V i n).toNat) (fun i _ => by
    obtain ⟨m, a, b, c, e⟩ := h.nx hn hu i
    show (v_top V i n).toNat < 23
    omega)
  have := dec i k h1 (by omega)
  have e : (v_top V i n).toNat = (v_top V k n).toNat := h3
  rw [e] at this
  omega
theorem Tree.top (h : Tree V d wn X) {n : Nat} (hn : n < 23) (hu : V 8 n ≠ 3) : ∃ m : Nat, m < 23 ∧ v_top V 23 n = m ∧ V 8 m ≠ 3 ∧ V 9 m = -1 ∧ wn m = wn n := by
  obtain ⟨k, m, h1, h2, h3, h4, h5, h6⟩ := h.dep hn hu
  refine ⟨m, h2, ?_, h4, h5, h6⟩
  have := v_top_st V (n := n) (k := k) (by rw [h3, ga_in h2]; exact h5) (23 - k)
  rw [show k + (23 - k) = 23 by omega] at this
  rw [this, h3]
theorem Tree.un (h : Tree V d wn X) {w w' : Nat} (hw : w < 5) (hw' : w' < 5) {n : Nat} (e : V 5 w = n) (e' : V 5 w' = n) : w = w' := by
  rcases h.wi hw with a | ⟨m, _, a, _, _, a5⟩
  · omega
  · rcases h.wi hw' with b | ⟨m', _, b, _, _, b5⟩
    · omega
    · have : m = m' := by omega
      subst this
      omega
theorem Tree.wo (h : Tree V d wn X) {n : Nat} (hn : n < 23) (hu : V 8 n ≠ 3) : v_wo V n = wn n := by
  obtain ⟨m, h1, h2, h3, h4, h5⟩ := h.top hn hu
  obtain ⟨w, w1, w2, w3⟩ := h.ro h1 h3 h4
  unfold v_wo
  rw [h2, if_neg (by omega), ← h5, w2]
  refine fnd_un w1 (by simp [w3]) (fun k hk e => ?_)
  rw [decide_eq_true_eq] at e
  exact h.un hk w1 e w3
theorem v_wo_m1 (V : VW) : v_wo V (-1) = -1 := by
  have : v_top V 23 (-1) = -1 := by
    show (if ga (V 9) 23 (-1) = -1 then (-1 : Int) else _) = _
    rw [if_pos ga_m1]
  unfold v_wo
  rw [this, if_pos rfl]
theorem Tree.wr5 (h : Tree V d wn X) {n : Nat} (hn : n < 23) (hu : V 8 n ≠ 3) : ∃ w : Nat, w < 5 ∧ wn n = w ∧ V 5 w ≠ -1 := by
  obtain ⟨m, h1, h2, h3, h4, h5⟩ := h.top hn hu
  obtain ⟨w, w1, w2, w3⟩ := h.ro h1 h3 h4
  exact ⟨w, w1, by rw [← h5, w2], by omega⟩
/-! steps between trees -/
/-- a group goes from its split -/
theorem Tree.leave (h : Tree V d wn X) {g s : Nat} (hg : g < 23) (hk : V 8 g = 2) (hs : V 9 g = s) (r8 : ∀ i, i < 23 → V' 8 i = if i = g then 3 else V 8 i) (r9 : ∀ i, i < 23 → V' 9 i = if i = g then -1 else V 9 i) (r10 : ∀ i, i < 23 → i ≠ g → V 9 i ≠ -1 → V' 10 i = if V 9 i = s ∧ V 10 g < V 10 i then V 10 i - 1 else V 10 i) (r11 : ∀ i, i < 23 → V' 11 i = V 11 i) (r5 : ∀ w, w < 5 → V' 5 w = V 5 w) : Tree V' d wn (fun k => X k || k == s) := by
  obtain ⟨s1, s2, s3, s4⟩ := h.par hg hs
  have nog : ∀ i, i < 23 → V 9 i ≠ g := fun i hi q => by
    have := (h.par hi q).2.1
    omega
  refine ⟨fun n hn => ?_, fun n hn q => ?_, fun n hn q => ?_, fun n hn q q2 => ?_, fun w hw => ?_, fun t ht q => ?_, fun n hn q => ?_⟩
  · rw [r8 n hn]
    have := h.ki hn
    split <;> omega
  · rw [r9 n hn]
    rw [r8 n hn] at q
    by_cases e : n = g
    · rw [if_pos e]
    · rw [if_neg e] at q ⊢
      exact h.fr hn q
  · rw [r9 n hn] at q ⊢
    by_cases e : n = g
    · rw [if_pos e] at q
      exact absurd rfl q
    · rw [if_neg e] at q ⊢
      obtain ⟨t, a, b, c, f⟩ := h.pa hn q
      refine ⟨t, a, b, ?_, f⟩
      rw [r8 t a, if_neg (fun z => by rw [z] at b; exact nog n hn b)]
      exact c
  · rw [r8 n hn] at q
    rw [r9 n hn] at q2
    by_cases e : n = g
    · rw [if_pos e] at q
      exact absurd rfl q
    · rw [if_neg e] at q q2
      obtain ⟨w, a, b, c⟩ := h.ro hn q q2
      exact ⟨w, a, b, by rw [r5 w a]; exact c⟩
  · rw [r5 w hw]
    rcases h.wi hw with a | ⟨n, hn, a, b, c, e⟩
    · exact Or.inl a
    · have ne : n ≠ g := fun z => by rw [z] at c; omega
      exact Or.inr ⟨n, hn, a, by rw [r8 n hn, if_neg ne]; exact b, by rw [r9 n hn, if_neg ne]; exact c, e⟩
  · rw [r8 t ht] at q
    by_cases e : t = g
    · rw [if_pos e] at q
      omega
    · rw [if_neg e] at q
      obtain ⟨a, b⟩ := h.sp ht q
      by_cases e2 : t = s
      · subst e2
        have := a.rem (m' := fun n => decide (V' 9 n = (t : Int))) (p' := V' 10) hg (by simp [hs]) (by rw [r9 g hg, if_pos rfl]; simp) (fun i hi ne => by rw [r9 i hi, if_neg ne]) (fun i hi ne mi => by
          rw [decide_eq_true_eq] at mi
          rw [r10 i hi ne (by omega)]
          by_cases z : V 10 g < V 10 i
          · rw [if_pos z, if_pos ⟨mi, z⟩]
          · rw [if_neg z, if_neg (fun y => z y.2)])
        exact ⟨this.1, fun q => by simp at q⟩
      · have c : ∀ i, i < 23 → decide (V' 9 i = (t : Int)) = decide (V 9 i = (t : Int)) := fun i hi => by
          rw [r9 i hi]
          by_cases z : i = g
          · rw [if_pos z, z, hs]
            have h1 : ¬ (-1 : Int) = t := by omega
            have h2 : ¬ (s : Int) = t := by omega
            simp [h1, h2]
          · rw [if_neg z]
        refine ⟨a.cg c (fun i hi mi => ?_), fun q => by rw [cnt_congr c]; exact b (by simpa using (by simp at q; exact q.1))⟩
        rw [decide_eq_true_eq] at mi
        have ne : i ≠ g := fun z => by rw [z, hs] at mi; omega
        rw [r10 i hi ne (by omega), if_neg (fun z => by omega)]
  · rw [r9 n hn] at q
    by_cases e : n = g
    · rw [if_pos e] at q
      exact absurd rfl q
    · rw [if_neg e] at q
      rw [r11 n hn]
      exact h.we hn q
/-- a split with one child gives it its place -/
theorem Tree.collapse (h : Tree V d wn X) {s m : Nat} (hs : s < 23) (hk : V 8 s ≤ 1) (hm : m < 23) (hp : V 9 m = s) (h1 : cnt (fun n => decide (V 9 n = s)) 23 = 1) (r8 : ∀ i, i < 23 → V' 8 i = if i = s then 3 else V 8 i) (r9 : ∀ i, i < 23 → V' 9 i = if i = s then -1 else if i = m then V 9 s else V 9 i) (r10 : ∀ i, i < 23 → V' 9 i ≠ -1 → V' 10 i = if i = m then V 10 s else V 10 i) (r11 : ∀ i, i < 23 → V' 9 i ≠ -1 → V' 11 i = if i = m then V 11 s else V 11 i) (r5 : ∀ w, w < 5 → V' 5 w = if V 9 s = -1 ∧ V 5 w = s then (m : Int) else V 5 w) : Tree V' d wn (fun k => X k && k != s) := by
  obtain ⟨-, -, m3, m4⟩ := h.par hm hp
  have nms : m ≠ s := fun z => by rw [z] at m3; omega
  have mu : V 8 m ≠ 3 := h.us hm (by omega)
  have only : ∀ i, i < 23 → V 9 i = s → i = m := fun i hi q => cnt_uniq (c := fun n => decide (V 9 n = (s : Int))) (n := 23) (by omega) hi hm (by simp [q]) (by simp [hp])
  refine ⟨fun n hn => ?_, fun n hn q => ?_, fun n hn q => ?_, fun n hn q q2 => ?_, fun w hw => ?_, fun t ht q => ?_, fun n hn q => ?_⟩
  · rw [r8 n hn]
    have := h.ki hn
    split <;> omega
  · rw [r9 n hn]
    rw [r8 n hn] at q
    by_cases e : n = s
    · rw [if_pos e]
    · rw [if_neg e] at q ⊢
      rw [if_neg (fun z => by rw [z] at q; exact mu q)]
      exact h.fr hn q
  · rw [r9 n hn] at q ⊢
    by_cases e : n = s
    · rw [if_pos e] at q
      exact absurd rfl q
    · rw [if_neg e] at q ⊢
      by_cases e2 : n = m
      · rw [if_pos e2] at q ⊢
        obtain ⟨t, a, b, c, f, g⟩ := h.pa hs q
        have nts : t ≠ s := fun z => by rw [z] at f; omega
        exact ⟨t, a, b, by rw [r8 t a, if_neg nts]; exact c, by rw [e2]; omega, by rw [e2, m4, g]⟩
      · rw [if_neg e2] at q ⊢
        obtain ⟨t, a, b, c, f, g⟩ := h.pa hn q
        have nts : t ≠ s := fun z => by rw [z] at b; exact e2 (only n hn b)
        exact ⟨t, a, b, by rw [r8 t a, if_neg nts]; exact c, f, g⟩
  · rw [r8 n hn] at q
    rw [r9 n hn] at q2
    by_cases e : n = s
    · rw [if_pos e] at q
      exact absurd rfl q
    · rw [if_neg e] at q q2
      by_cases e2 : n = m
      · rw [if_pos e2] at q2
        obtain ⟨w, a, b, c⟩ := h.ro hs (by omega) q2
        exact ⟨w, a, by rw [e2, m4, b], by rw [r5 w a, if_pos ⟨q2, c⟩, e2]⟩
      · rw [if_neg e2] at q2
        obtain ⟨w, a, b, c⟩ := h.ro hn q q2
        exact ⟨w, a, b, by rw [r5 w a, if_neg (fun z => by omega)]; exact c⟩
  · rw [r5 w hw]
    rcases h.wi hw with a | ⟨n, hn, a, b, c, e⟩
    · exact Or.inl (by rw [if_neg (fun z => by omega)]; exact a)
    · by_cases z : n = s
      · subst z
        rw [if_pos ⟨c, a⟩]
        exact Or.inr ⟨m, hm, rfl, by rw [r8 m hm, if_neg nms]; exact mu, by rw [r9 m hm, if_neg nms, if_pos rfl]; exact c, by rw [m4, e]⟩
      · rw [if_neg (fun y => z (by omega))]
        have nm : n ≠ m := fun y => by rw [y, hp] at c; omega
        exact Or.inr ⟨n, hn, a, by rw [r8 n hn, if_neg z]; exact b, by rw [r9 n hn, if_neg z, if_neg nm]; exact c, e⟩
  · rw [r8 t ht] at q
    by_cases e : t = s
    · rw [if_pos e] at q
      omega
    · rw [if_neg e] at q
      obtain ⟨a, b⟩ := h.sp ht q
      have xs : (X t && t != s) = false → X t = false := fun z => by simpa [e] using z
      by_cases e2 : V 9 s = t
      · have := a.rep (m' := fun n => decide (V' 9 n = (t : Int))) (p' := V' 10) hs hm (by simp [e2]) (by simp [hp]; omega) (by rw [r9 s hs, if_pos rfl]; simp) (by rw [r9 m hm, if_neg nms, if_pos rfl]; simp [e2]) (fun i hi n1 n2 => by rw [r9 i hi, if_neg n1, if_neg n2]) (by rw [r10 m hm (by rw [r9 m hm, if_neg nms, if_pos rfl]; omega), if_pos rfl]) (fun i hi n1 n2 mi => by
          rw [decide_eq_true_eq] at mi
          rw [r10 i hi (by rw [r9 i hi, if_neg n1, if_neg n2]; omega), if_neg n2])
        exact ⟨this.1, fun q => by rw [this.2]; exact b (xs q)⟩
      · have c : ∀ i, i < 23 → decide (V' 9 i = (t : Int)) = decide (V 9 i = (t : Int)) := fun i hi => by
          rw [r9 i hi]
          by_cases z : i = s
          · rw [if_pos z, z]
            have h1 : ¬ (-1 : Int) = t := by omega
            simp [h1, e2]
          · rw [if_neg z]
            by_cases z2 : i = m
            · rw [if_pos z2, z2, hp]
              have h1 : ¬ (s : Int) = t := by omega
              simp [h1, e2]
            · rw [if_neg z2]
        refine ⟨a.cg c (fun i hi mi => ?_), fun q => by rw [cnt_congr c]; exact b (xs q)⟩
        have mi' := mi
        rw [← c i hi, decide_eq_true_eq] at mi'
        rw [decide_eq_true_eq] at mi
        rw [r10 i hi (by omega), if_neg (fun z => by rw [z, hp] at mi; omega)]
  · have q' := q
    rw [r9 n hn] at q
    by_cases e : n = s
    · rw [if_pos e] at q
      exact absurd rfl q
    · rw [if_neg e] at q
      rw [r11 n hn q']
      by_cases e2 : n = m
      · rw [if_pos e2] at q ⊢
        exact h.we hs q
      · rw [if_neg e2] at q ⊢
        exact h.we hn q
/-- a window's only group goes -/
theorem Tree.close (h : Tree V d wn X) {g w : Nat} (hg : g < 23) (hk : V 8 g = 2) (hp : V 9 g = -1) (hw : w < 5) (hr : V 5 w = g) (r8 : ∀ i, i < 23 → V' 8 i = if i = g then 3 else V 8 i) (r9 : ∀ i, i < 23 → V' 9 i = V 9 i) (r10 : ∀ i, i < 23 → V' 10 i = V 10 i) (r11 : ∀ i, i < 23 → V' 11 i = V 11 i) (r5 : ∀ i, i < 5 → V' 5 i = if i = w then -1 else V 5 i) : Tree V' d wn X := by
  have nog : ∀ i, i < 23 → V 9 i ≠ g := fun i hi q => by
    have := (h.par hi q).2.1
    omega
  refine ⟨fun n hn => ?_, fun n hn q => ?_, fun n hn q => ?_, fun n hn q q2 => ?_, fun v hv => ?_, fun t ht q => ?_, fun n hn q => ?_⟩
  · rw [r8 n hn]
    have := h.ki hn
    split <;> omega
  · rw [r9 n hn]
    rw [r8 n hn] at q
    by_cases e : n = g
    · rw [e]; exact hp
    · rw [if_neg e] at q
      exact h.fr hn q
  · rw [r9 n hn] at q ⊢
    obtain ⟨t, a, b, c, f⟩ := h.pa hn q
    refine ⟨t, a, b, ?_, f⟩
    rw [r8 t a, if_neg (fun z => by rw [z] at b; exact nog n hn b)]
    exact c
  · rw [r8 n hn] at q
    rw [r9 n hn] at q2
    by_cases e : n = g
    · rw [if_pos e] at q
      exact absurd rfl q
    · rw [if_neg e] at q
      obtain ⟨v, a, b, c⟩ := h.ro hn q q2
      exact ⟨v, a, b, by rw [r5 v a, if_neg (fun z => by rw [z, hr] at c; omega)]; exact c⟩
  · rw [r5 v hv]
    by_cases e : v = w
    · exact Or.inl (if_pos e)
    · rw [if_neg e]
      rcases h.wi hv with a | ⟨n, hn, a, b, c, f⟩
      · exact Or.inl a
      · have ne : n ≠ g := fun z => by rw [z] at a; exact e (h.un hv hw a hr)
        exact Or.inr ⟨n, hn, a, by rw [r8 n hn, if_neg ne]; exact b, by rw [r9 n hn]; exact c, f⟩
  · rw [r8 t ht] at q
    by_cases e : t = g
    · rw [if_pos e] at q
      omega
    · rw [if_neg e] at q
      obtain ⟨a, b⟩ := h.sp ht q
      have c : ∀ i, i < 23 → decide (V' 9 i = (t : Int)) = decide (V 9 i = (t : Int)) := fun i hi => by rw [r9 i hi]
      exact ⟨a.cg c (fun i hi _ => r10 i hi), fun q => by rw [cnt_congr c]; exact b q⟩
  · rw [r9 n hn] at q
    rw [r11 n hn]
    exact h.we hn q
end TR

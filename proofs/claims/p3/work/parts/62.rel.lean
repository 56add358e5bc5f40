/-! THE RELATION: trees (2): new nodes -/
theorem Nmb.emp {N : Nat} {m : Nat → Bool} {p : Nat → Int} (h : ∀ i, i < N → m i = false) : Nmb N m p ∧ cnt m N = 0 := by
  have hc : cnt m N = 0 := cnt_zero.mpr h
  refine ⟨⟨fun i hi q => ?_, fun k hk => absurd hk (by omega), fun i k hi _ q => ?_⟩, hc⟩
  · rw [h i hi] at q; cases q
  · rw [h i hi] at q; cases q
section TN
variable {V V' : VW} {d : Nat → Nat} {wn : Nat → Int} {X : Nat → Bool}
theorem Tree.nof (h : Tree V d wn X) {f : Nat} (hf : f < 23) (hk : V 8 f = 3 ∨ V 8 f = 2) {i : Nat} (hi : i < 23) : V 9 i ≠ f := fun q => by
  have := (h.par hi q).2.1
  omega
/-- the same tree, judged by other splits -/
theorem Tree.drop {X' : Nat → Bool} (h : Tree V d wn X) (hx : ∀ s, s < 23 → V 8 s ≤ 1 → X s = true → X' s = false → 2 ≤ cnt (fun n => decide (V 9 n = s)) 23) : Tree V d wn X' :=
  ⟨h.1, h.2.1, h.2.2.1, h.2.2.2.1, h.2.2.2.2.1, fun s hs q => ⟨(h.sp hs q).1, fun z => by
    cases e : X s
    · exact (h.sp hs q).2 e
    · exact hx s hs q e z⟩, h.2.2.2.2.2.2⟩
/-- a window gets a root -/
theorem Tree.root {X' : Nat → Bool} {c : Int} (h : Tree V d wn X) {f w : Nat} (hf : f < 23) (hk : V 8 f = 3) (hc : 0 ≤ c ∧ c ≤ 2) (hw : w < 5) (hr : V 5 w = -1) (r8 : ∀ i, i < 23 → V' 8 i = if i = f then c else V 8 i) (r9 : ∀ i, i < 23 → V' 9 i = V 9 i) (r10 : ∀ i, i < 23 → V 9 i ≠ -1 → V' 10 i = V 10 i) (r11 : ∀ i, i < 23 → V 9 i ≠ -1 → V' 11 i = V 11 i) (r5 : ∀ i, i < 5 → V' 5 i = if i = w then (f : Int) else V 5 i) (hx : c ≤ 1 → X' f = true) (hX : ∀ k, k ≠ f → X' k = X k) : Tree V' d (fun n => if n = f then (w : Int) else wn n) X' := by
  have f9 := h.fr hf hk
  refine ⟨fun n hn => ?_, fun n hn q => ?_, fun n hn q => ?_, fun n hn q q2 => ?_, fun v hv => ?_, fun t ht q => ?_, fun n hn q => ?_⟩
  · rw [r8 n hn]
    have := h.ki hn
    split <;> omega
  · rw [r9 n hn]
    rw [r8 n hn] at q
    by_cases e : n = f
    · rw [e]; exact f9
    · rw [if_neg e] at q
      exact h.fr hn q
  · rw [r9 n hn] at q ⊢
    obtain ⟨s, a, b, c1, c2, c3⟩ := h.pa hn q
    have n1 : s ≠ f := fun z => by rw [z] at c1; omega
    have n2 : n ≠ f := fun z => by rw [z] at q; exact q f9
    exact ⟨s, a, b, by rw [r8 s a, if_neg n1]; exact c1, c2, by dsimp only; rw [if_neg n1, if_neg n2]; exact c3⟩
  · rw [r8 n hn] at q
    rw [r9 n hn] at q2
    by_cases e : n = f
    · exact ⟨w, hw, if_pos e, by rw [r5 w hw, if_pos rfl, e]⟩
    · rw [if_neg e] at q
      obtain ⟨v, a, b, c1⟩ := h.ro hn q q2
      exact ⟨v, a, by dsimp only; rw [if_neg e]; exact b, by rw [r5 v a, if_neg (fun z => by rw [z, hr] at c1; omega)]; exact c1⟩
  · rw [r5 v hv]
    by_cases e : v = w
    · rw [if_pos e]
      exact Or.inr ⟨f, hf, rfl, by rw [r8 f hf, if_pos rfl]; omega, by rw [r9 f hf]; exact f9, by dsimp only; rw [if_pos rfl, e]⟩
    · rw [if_neg e]
      rcases h.wi hv with a | ⟨n, hn, a, b, c1, c2⟩
      · exact Or.inl a
      · have ne : n ≠ f := fun z => by rw [z] at b; exact b hk
        exact Or.inr ⟨n, hn, a, by rw [r8 n hn, if_neg ne]; exact b, by rw [r9 n hn]; exact c1, by dsimp only; rw [if_neg ne]; exact c2⟩
  · rw [r8 t ht] at q
    by_cases e : t = f
    · rw [if_pos e] at q
      have z := Nmb.emp (N := 23) (m := fun n => decide (V' 9 n = (t : Int))) (p := V' 10) (fun i hi => by
        rw [decide_eq_false_iff_not, r9 i hi, e]
        exact h.nof hf (Or.inl hk) hi)
      exact ⟨z.1, fun y => by rw [e, hx q] at y; cases y⟩
    · rw [if_neg e] at q
      obtain ⟨a, b⟩ := h.sp ht q
      have c1 : ∀ i, i < 23 → decide (V' 9 i = (t : Int)) = decide (V 9 i = (t : Int)) := fun i hi => by rw [r9 i hi]
      exact ⟨a.cg c1 (fun i hi mi => r10 i hi (by rw [decide_eq_true_eq] at mi; omega)), fun q => by rw [cnt_congr c1]; exact b (by rw [← hX t e]; exact q)⟩
  · rw [r9 n hn] at q
    rw [r11 n hn q]
    exact h.we hn q
/-- a new node enters a split -/
theorem Tree.enter {X' : Nat → Bool} {c k : Int} (h : Tree V d wn X) {f s : Nat} (hf : f < 23) (hk : V 8 f = 3) (hc : 0 ≤ c ∧ c ≤ 2) (hs : s < 23) (hs1 : V 8 s ≤ 1) (hk0 : 0 ≤ k ∧ k ≤ cnt (fun n => decide (V 9 n = s)) 23) (r8 : ∀ i, i < 23 → V' 8 i = if i = f then c else V 8 i) (r9 : ∀ i, i < 23 → V' 9 i = if i = f then (s : Int) else V 9 i) (r10 : ∀ i, i < 23 → V' 9 i ≠ -1 → V' 10 i = if i = f then k else if V 9 i = s ∧ k ≤ V 10 i then V 10 i + 1 else V 10 i) (r11 : ∀ i, i < 23 → V' 9 i ≠ -1 → 1 ≤ V' 11 i ∧ V' 11 i ≤ 1000000) (r5 : ∀ i, i < 5 → V' 5 i = V 5 i) (hx : c ≤ 1 → X' f = true) (hX : ∀ k, k ≠ f → X' k = X k) : Tree V' (fun n => if n = f then d s + 1 else d n) (fun n => if n = f then wn s else wn n) X' := by
  have f9 := h.fr hf hk
  have nsf : s ≠ f := fun z => by rw [z] at hs1; omega
  refine ⟨fun n hn => ?_, fun n hn q => ?_, fun n hn q => ?_, fun n hn q q2 => ?_, fun v hv => ?_, fun t ht q => ?_, r11⟩
  · rw [r8 n hn]
    have := h.ki hn
    split <;> omega
  · rw [r9 n hn]
    rw [r8 n hn] at q
    by_cases e : n = f
    · rw [if_pos e] at q
      omega
    · rw [if_neg e] at q ⊢
      exact h.fr hn q
  · rw [r9 n hn] at q ⊢
    by_cases e : n = f
    · rw [if_pos e] at q ⊢
      exact ⟨s, hs, rfl, by rw [r8 s hs, if_neg nsf]; exact hs1, by dsimp only; rw [if_neg nsf, if_pos e]; omega, by dsimp only; rw [if_neg nsf, if_pos e]⟩
    · rw [if_neg e] at q ⊢
      obtain ⟨t, a, b, c1, c2, c3⟩ := h.pa hn q
      have n1 : t ≠ f := fun z => by rw [z] at c1; omega
      exact ⟨t, a, b, by rw [r8 t a, if_neg n1]; exact c1, by dsimp only; rw [if_neg n1, if_neg e]; exact c2, by dsimp only; rw [if_neg n1, if_neg e]; exact c3⟩
  · rw [r8 n hn] at q
    rw [r9 n hn] at q2
    by_cases e : n = f
    · rw [if_pos e] at q2
      omega
    · rw [if_neg e] at q q2
      obtain ⟨v, a, b, c1⟩ := h.ro hn q q2
      exact ⟨v, a, by dsimp only; rw [if_neg e]; exact b, by rw [r5 v a]; exact c1⟩
  · rw [r5 v hv]
    rcases h.wi hv with a | ⟨n, hn, a, b, c1, c2⟩
    · exact Or.inl a
    · have ne : n ≠ f := fun z => by rw [z] at b; exact b hk
      exact Or.inr ⟨n, hn, a, by rw [r8 n hn, if_neg ne]; exact b, by rw [r9 n hn, if_neg ne]; exact c1, by dsimp only; rw [if_neg ne]; exact c2⟩
  · rw [r8 t ht] at q
    by_cases e : t = f
    · rw [if_pos e] at q
      have z := Nmb.emp (N := 23) (m := fun n => decide (V' 9 n = (t : Int))) (p := V' 10) (fun i hi => by
        rw [decide_eq_false_iff_not, r9 i hi, e]
        by_cases y : i = f
        · rw [if_pos y]; omega
        · rw [if_neg y]
          exact h.nof hf (Or.inl hk) hi)
      exact ⟨z.1, fun y => by rw [e, hx q] at y; cases y⟩
    · rw [if_neg e] at q
      obtain ⟨a, b⟩ := h.sp ht q
      by_cases e2 : t = s
      · subst e2
        have := a.ins (m' := fun n => decide (V' 9 n = (t : Int))) (p' := V' 10) (k0 := k) hf (by rw [decide_eq_false_iff_not, f9]; omega) hk0 (by rw [r9 f hf, if_pos rfl]; simp) (fun i hi ne => by rw [r9 i hi, if_neg ne]) (by rw [r10 f hf (by rw [r9 f hf, if_pos rfl]; omega), if_pos rfl]) (fun i hi ne mi => by
          rw [decide_eq_true_eq] at mi
          rw [r10 i hi (by rw [r9 i hi, if_neg ne]; omega), if_neg ne]
          by_cases z : k ≤ V 10 i
          · rw [if_pos z, if_pos ⟨mi, z⟩]
          · rw [if_neg z, if_neg (fun y => z y.2)])
        exact ⟨this.1, fun q => by
          rw [this.2]
          have := b (by rw [← hX t e]; exact q)
          omega⟩
      · have c1 : ∀ i, i < 23 → decide (V' 9 i = (t : Int)) = decide (V 9 i = (t : Int)) := fun i hi => by
          rw [r9 i hi]
          by_cases z : i = f
          · rw [if_pos z, z, f9]
            have h1 : ¬ (-1 : Int) = t := by omega
            have h2 : ¬ (s : Int) = t := by omega
            simp [h1, h2]
          · rw [if_neg z]
        refine ⟨a.cg c1 (fun i hi mi => ?_), fun q => by rw [cnt_congr c1]; exact b (by rw [← hX t e]; exact q)⟩
        rw [decide_eq_true_eq] at mi
        have ne : i ≠ f := fun z => by rw [z, f9] at mi; omega
        rw [r10 i hi (by rw [r9 i hi, if_neg ne]; omega), if_neg ne, if_neg (fun z => by omega)]
/-- a new split takes the place of a group, and gets it and a new group as its children -/
theorem Tree.between {c kt kf : Int} (h : Tree V d wn X) {t m f : Nat} (ht : t < 23) (hm : m < 23) (hf : f < 23) (kt2 : V 8 t = 2) (km : V 8 m = 3) (hkf : V 8 f = 3) (nmf : m ≠ f) (hc : 0 ≤ c ∧ c ≤ 1) (hk : (kt = 0 ∧ kf = 1) ∨ (kt = 1 ∧ kf = 0)) (r8 : ∀ i, i < 23 → V' 8 i = if i = m then c else if i = f then 2 else V 8 i) (r9 : ∀ i, i < 23 → V' 9 i = if i = m then V 9 t else if i = t ∨ i = f then (m : Int) else V 9 i) (r10 : ∀ i, i < 23 → V' 9 i ≠ -1 → V' 10 i = if i = m then V 10 t else if i = t then kt else if i = f then kf else V 10 i) (r11 : ∀ i, i < 23 → V' 9 i ≠ -1 → V' 11 i = if i = m then V 11 t else if i = t ∨ i = f then 1000 else V 11 i) (r5 : ∀ w, w < 5 → V' 5 w = if V 9 t = -1 ∧ V 5 w = t then (m : Int) else V 5 w) : Tree V' (fun n => if n = m then d t else if n = t ∨ n = f then d t + 1 else d n) (fun n => if n = m ∨ n = f then wn t else wn n) X := by
  have f9 := h.fr hf hkf
  have m9 := h.fr hm km
  have ntm : t ≠ m := fun z => by rw [z] at kt2; omega
  have ntf : t ≠ f := fun z => by rw [z] at kt2; omega
  refine ⟨fun n hn => ?_, fun n hn q => ?_, fun n hn q => ?_, fun n hn q q2 => ?_, fun v hv => ?_, fun s hs q => ?_, fun n hn q => ?_⟩
  · rw [r8 n hn]
    have := h.ki hn
    split
    · omega
    · split <;> omega
  · rw [r9 n hn]
    rw [r8 n hn] at q
    by_cases e : n = m
    · rw [if_pos e] at q
      omega
    · rw [if_neg e] at q ⊢
      by_cases e2 : n = f
      · rw [if_pos e2] at q
        omega
      · rw [if_neg e2] at q
        rw [if_neg (fun z => by
          rcases z with z | z
          · rw [z] at q; omega
          · exact e2 z)]
        exact h.fr hn q
  · rw [r9 n hn] at q ⊢
    by_cases e : n = m
    · rw [if_pos e] at q ⊢
      obtain ⟨s, a, b, c1, c2, c3⟩ := h.pa ht q
      have n1 : s ≠ m := fun z => by rw [z] at c1; omega
      have n2 : s ≠ f := fun z => by rw [z] at c1; omega
      have n3 : s ≠ t := fun z => by rw [z] at c1; omega
      exact ⟨s, a, b, by rw [r8 s a, if_neg n1, if_neg n2]; exact c1, by dsimp only; rw [if_neg n1, if_neg (fun z => z.elim n3 n2), if_pos e]; exact c2, by dsimp only; rw [if_pos (Or.inl e), if_neg (fun z => z.elim n1 n2)]; exact c3⟩
    · rw [if_neg e] at q ⊢
      by_cases e2 : n = t ∨ n = f
      · rw [if_pos e2] at q ⊢
        refine ⟨m, hm, rfl, by rw [r8 m hm, if_pos rfl]; omega, by dsimp only; rw [if_pos rfl, if_neg e, if_pos e2]; omega, ?_⟩
        dsimp only; rw [if_pos (Or.inl rfl)]
        rcases e2 with e2 | e2
        · rw [if_neg (fun z => z.elim e (fun z => ntf (by omega))), e2]
        · rw [if_pos (Or.inr e2)]
      · rw [if_neg e2] at q ⊢
        obtain ⟨s, a, b, c1, c2, c3⟩ := h.pa hn q
        have n1 : s ≠ m := fun z => by rw [z] at c1; omega
        have n2 : s ≠ f := fun z => by rw [z] at c1; omega
        have n3 : s ≠ t := fun z => by rw [z] at c1; omega
        exact ⟨s, a, b, by rw [r8 s a, if_neg n1, if_neg n2]; exact c1, by dsimp only; rw [if_neg n1, if_neg (fun z => z.elim n3 n2), if_neg e, if_neg e2]; exact c2, by dsimp only; rw [if_neg (fun z => z.elim e (fun y => e2 (Or.inr y))), if_neg (fun z => z.elim n1 n2)]; exact c3⟩
  · rw [r8 n hn] at q
    rw [r9 n hn] at q2
    by_cases e : n = m
    · rw [if_pos e] at q2
      obtain ⟨w, a, b, c1⟩ := h.ro ht (by omega) q2
      exact ⟨w, a, by dsimp only; rw [if_pos (Or.inl e)]; exact b, by rw [r5 w a, if_pos ⟨q2, c1⟩, e]⟩
    · rw [if_neg e] at q q2
      by_cases e2 : n = t ∨ n = f
      · rw [if_pos e2] at q2
        omega
      · rw [if_neg e2] at q2
        rw [if_neg (fun z => e2 (Or.inr z))] at q
        obtain ⟨w, a, b, c1⟩ := h.ro hn q q2
        exact ⟨w, a, by dsimp only; rw [if_neg (fun z => z.elim e (fun y => e2 (Or.inr y)))]; exact b, by rw [r5 w a, if_neg (fun z => e2 (Or.inl (by omega)))]; exact c1⟩
  · rw [r5 v hv]
    rcases h.wi hv with a | ⟨n, hn, a, b, c1, c2⟩
    · exact Or.inl (by rw [if_neg (fun z => by omega)]; exact a)
    · by_cases z : n = t
      · subst z
        rw [if_pos ⟨c1, a⟩]
        exact Or.inr ⟨m, hm, rfl, by rw [r8 m hm, if_pos rfl]; omega, by rw [r9 m hm, if_pos rfl]; exact c1, by dsimp only; rw [if_pos (Or.inl rfl)]; exact c2⟩
      · rw [if_neg (fun y => z (by omega))]
        have n1 : n ≠ m := fun y => by rw [y] at b; exact b km
        have n2 : n ≠ f := fun y => by rw [y] at b; exact b hkf
        exact Or.inr ⟨n, hn, a, by rw [r8 n hn, if_neg n1, if_neg n2]; exact b, by rw [r9 n hn, if_neg n1, if_neg (fun y => y.elim z n2)]; exact c1, by dsimp only; rw [if_neg (fun y => y.elim n1 n2)]; exact c2⟩
  · rw [r8 s hs] at q
    by_cases e : s = m
    · have n1 := Nmb.emp (N := 23) (m := fun _ => false) (p := fun _ => (0 : Int)) (fun _ _ => rfl)
      have n2 := n1.1.ins (m' := fun n => decide (n = t)) (p' := fun _ => (0 : Int)) (i0 := t) (k0 := 0) ht rfl (by rw [n1.2]; omega) (by simp) (fun i _ ne => by simp [ne]) rfl (fun i _ _ z => by cases z)
      have z9 : ∀ i, i < 23 → decide (V' 9 i = (s : Int)) = (decide (i = t) || decide (i = f)) := fun i hi => by
        rw [r9 i hi, e]
        by_cases y : i = m
        · rw [if_pos y]
          have h1 := h.nof hm (Or.inl km) ht
          have h2 : ¬ i = t := by omega
          have h3 : ¬ i = f := by omega
          simp [h1, h2, h3]
        · rw [if_neg y]
          by_cases y2 : i = t ∨ i = f
          · rw [if_pos y2]
            rcases y2 with y2 | y2 <;> simp [y2]
          · rw [if_neg y2]
            have h1 := h.nof hm (Or.inl km) hi
            have h2 : ¬ i = t := fun w => y2 (Or.inl w)
            have h3 : ¬ i = f := fun w => y2 (Or.inr w)
            simp [h1, h2, h3]
      have v9 : ∀ i, i < 23 → i = t ∨ i = f → V' 9 i ≠ -1 := fun i hi y => by
        rw [r9 i hi, if_neg (by omega), if_pos y]
        omega
      have n3 := n2.1.ins (m' := fun n => decide (V' 9 n = (s : Int))) (p' := V' 10) (i0 := f) (k0 := kf) hf (by simp; omega) (by rw [n2.2, n1.2]; omega) (by rw [z9 f hf]; simp) (fun i hi ne => by rw [z9 i hi]; simp [ne]) (by rw [r10 f hf (v9 f hf (Or.inr rfl)), if_neg (by omega), if_neg (by omega), if_pos rfl]) (fun i hi ne mi => by
        rw [decide_eq_true_eq] at mi
        subst mi
        rw [r10 i hi (v9 i hi (Or.inl rfl)), if_neg ntm, if_pos rfl]
        split <;> omega)
      exact ⟨n3.1, fun _ => by rw [n3.2, n2.2, n1.2]; omega⟩
    · rw [if_neg e] at q
      have nf : s ≠ f := fun z => by rw [if_pos z] at q; omega
      rw [if_neg nf] at q
      obtain ⟨a, b⟩ := h.sp hs q
      by_cases e2 : V 9 t = s
      · have := a.rep (m' := fun n => decide (V' 9 n = (s : Int))) (p' := V' 10) ht hm (by simp [e2]) (by rw [decide_eq_false_iff_not, m9]; omega) (by rw [r9 t ht, if_neg ntm, if_pos (Or.inl rfl), decide_eq_false_iff_not]; omega) (by rw [r9 m hm, if_pos rfl]; simp [e2]) (fun i hi n1 n2 => by
          rw [r9 i hi, if_neg n2]
          by_cases z : i = f
          · rw [if_pos (Or.inr z), z, f9]
            have h1 : ¬ (m : Int) = s := by omega
            have h2 : ¬ (-1 : Int) = s := by omega
            simp [h1, h2]
          · rw [if_neg (fun y => y.elim n1 z)]) (by rw [r10 m hm (by rw [r9 m hm, if_pos rfl]; omega), if_pos rfl]) (fun i hi n1 n2 mi => by
          rw [decide_eq_true_eq] at mi
          have z : i ≠ f := fun z => by rw [z, f9] at mi; omega
          rw [r10 i hi (by rw [r9 i hi, if_neg n2, if_neg (fun y => y.elim n1 z)]; omega), if_neg n2, if_neg n1, if_neg z])
        exact ⟨this.1, fun q => by rw [this.2]; exact b q⟩
      · have c1 : ∀ i, i < 23 → decide (V' 9 i = (s : Int)) = decide (V 9 i = (s : Int)) := fun i hi => by
          rw [r9 i hi]
          by_cases z : i = m
          · rw [if_pos z, z, m9]
            have h1 : ¬ (-1 : Int) = s := by omega
            simp [h1, e2]
          · rw [if_neg z]
            by_cases z2 : i = t ∨ i = f
            · rw [if_pos z2]
              have h1 : ¬ (m : Int) = s := by omega
              rcases z2 with z2 | z2
              · rw [z2]; simp [h1, e2]
              · rw [z2, f9]
                have h2 : ¬ (-1 : Int) = s := by omega
                simp [h1, h2]
            · rw [if_neg z2]
        refine ⟨a.cg c1 (fun i hi mi => ?_), fun q => by rw [cnt_congr c1]; exact b q⟩
        have mi' := mi
        rw [← c1 i hi, decide_eq_true_eq] at mi'
        rw [decide_eq_true_eq] at mi
        have n1 : i ≠ m := fun z => by rw [z, m9] at mi; omega
        have n2 : i ≠ t := fun z => by rw [z] at mi; exact e2 mi
        have n3 : i ≠ f := fun z => by rw [z, f9] at mi; omega
        rw [r10 i hi (by omega), if_neg n1, if_neg n2, if_neg n3]
  · have q' := q
    rw [r9 n hn] at q
    rw [r11 n hn q']
    by_cases e : n = m
    · rw [if_pos e] at q ⊢
      exact h.we ht q
    · rw [if_neg e] at q ⊢
      by_cases e2 : n = t ∨ n = f
      · rw [if_pos e2]
        omega
      · rw [if_neg e2] at q ⊢
        exact h.we hn q
end TN

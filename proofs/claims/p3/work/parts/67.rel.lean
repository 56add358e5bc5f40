/-! THE RELATION: new groups -/
theorem dir_rg (s : Int) : v_dir s = 0 ∨ v_dir s = 1 := by
  unfold v_dir
  split
  · exact Or.inl rfl
  · exact Or.inr rfl
theorem beh_rg (s : Int) : v_beh s = 0 ∨ v_beh s = 1 := by
  unfold v_beh
  split
  · exact Or.inr rfl
  · exact Or.inl rfl
/-- a node that enters a split: the rows -/
theorem at_rows {V : VW} {n s : Nat} {k w : Int} (hn : n < 23) : (∀ i, v_attach V n s k w 9 i = if i = n then (s : Int) else V 9 i) ∧ (∀ i, v_attach V n s k w 10 i = if i = n then k else if i < 23 ∧ V 9 i = s ∧ k ≤ V 10 i then wr (V 10 i + 1) else V 10 i) ∧ (∀ i, v_attach V n s k w 11 i = if i = n then w else V 11 i) ∧ ∀ j, j ≠ 9 → j ≠ 10 → j ≠ 11 → v_attach V n s k w j = V j := by
  have A : v_attach V n s k w = up (up (up (v_shift V s k 1) 9 n s) 10 n k) 11 n w := by
    unfold v_attach
    rw [if_neg (by omega), if_neg (by omega)]
  have S : ∀ j, j ≠ 10 → v_shift V s k 1 j = V j := fun j hj => by
    funext i
    unfold v_shift
    rw [if_neg (fun z => hj z.1)]
  rw [A]
  refine ⟨fun i => ?_, fun i => ?_, fun i => ?_, fun j a b c => ?_⟩
  · rw [up_ne (by decide), up_ne (by decide), up9 hn, S 9 (by decide)]
  · rw [up_ne (by decide), up10 hn, up_ne (by decide)]
    by_cases e : i = n
    · rw [if_pos e, if_pos e]
    · rw [if_neg e, if_neg e]
      unfold v_shift
      by_cases q : i < 23 ∧ V 9 i = s ∧ k ≤ V 10 i
      · rw [if_pos q, if_pos ⟨rfl, q.1, by omega, q.2⟩]
      · rw [if_neg q, if_neg (fun z => q ⟨z.2.1, z.2.2.2⟩)]
  · rw [up11 hn, up_ne (by decide), up_ne (by decide), S 11 (by decide)]
  · rw [up_ne c, up_ne b, up_ne a, S j b]
/-- what the new group g beside t leaves -/
def Bes (V V' : VW) (t f : Nat) (wn wn' : Nat → Int) : Prop :=
  V' 8 f = 2 ∧ V 8 f = 3 ∧ wn' f = wn t ∧ (∀ n, n < 23 → V 8 n ≠ 3 → V' 8 n = V 8 n ∧ wn' n = wn n) ∧ (∀ n, n < 23 → V' 8 n = 2 → n = f ∨ V 8 n = 2) ∧ (∀ w : Nat, w < 5 → (V' 5 w = -1 ↔ V 5 w = -1)) ∧
  ∀ j, j ≠ 5 → j ≠ 8 → j ≠ 9 → j ≠ 10 → j ≠ 11 → V' j = V j
theorem bes2_ok {V : VW} {d : Nat → Nat} {wn : Nat → Int} {X : Nat → Bool} (h : Tree V d wn X) {t f m : Nat} (ht : t < 23) (k2 : V 8 t = 2) (hf : f < 23) (hkf : V 8 f = 3) (hm : m < 23) (hkm : V 8 m = 3) (nmf : m ≠ f) (side : Int) (hmn : v_mn (up V 8 f 2) = m) : ∃ d' wn', Tree (v_bes2 t side f (up V 8 f 2)) d' wn' X ∧ Bes V (v_bes2 t side f (up V 8 f 2)) t f wn wn' ∧
    (∀ i, i < 23 → v_bes2 t side f (up V 8 f 2) 8 i = if i = m then v_dir side else if i = f then 2 else V 8 i) ∧
    (∀ i, i < 23 → v_bes2 t side f (up V 8 f 2) 9 i = if i = m then V 9 t else if i = t ∨ i = f then (m : Int) else V 9 i) ∧
    (∀ i, i < 23 → v_bes2 t side f (up V 8 f 2) 9 i ≠ -1 → v_bes2 t side f (up V 8 f 2) 10 i = if i = m then V 10 t else if i = t then 1 - v_beh side else if i = f then v_beh side else V 10 i) ∧
    (∀ i, i < 23 → v_bes2 t side f (up V 8 f 2) 9 i ≠ -1 → v_bes2 t side f (up V 8 f 2) 11 i = if i = m then V 11 t else if i = t ∨ i = f then 1000 else V 11 i) ∧
    (∀ w, w < 5 → v_bes2 t side f (up V 8 f 2) 5 w = if V 9 t = -1 ∧ V 5 w = t then (m : Int) else V 5 w) := by
  have ntm : t ≠ m := fun z => by rw [z] at k2; omega
  have ntf : t ≠ f := fun z => by rw [z] at k2; omega
  have f9 := h.fr hf hkf
  have m9 := h.fr hm hkm
  have nof : ∀ i, i < 23 → V 9 i ≠ m := fun i hi => h.nof hm (Or.inl hkm) hi
  have bd := dir_rg side
  have bb := beh_rg side
  unfold v_bes2
  rw [hmn]
  -- V2: both nodes made
  obtain ⟨V2, hV2⟩ : ∃ V2, V2 = up (up V 8 f 2) 8 m (v_dir side) := ⟨_, rfl⟩
  rw [← hV2]
  have q8 : ∀ i, V2 8 i = if i = m then v_dir side else if i = f then 2 else V 8 i := fun i => by rw [hV2, up8 hm, up8 hf]
  have qj : ∀ j, j ≠ 8 → V2 j = V j := fun j hj => by rw [hV2, up_ne hj, up_ne hj]
  -- V3: m stands where t stood
  obtain ⟨V3, hV3⟩ : ∃ V3, V3 = v_repl V2 t m := ⟨_, rfl⟩
  rw [← hV3]
  have R : (∀ i, V3 8 i = V2 8 i) ∧ (∀ i, V3 9 i = if i = m then V 9 t else if i = t then -1 else V 9 i) ∧ (∀ i, i < 23 → (i ≠ m ∨ V 9 t ≠ -1) → V3 10 i = if i = m then V 10 t else V 10 i) ∧ (∀ i, i < 23 → (i ≠ m ∨ V 9 t ≠ -1) → V3 11 i = if i = m then V 11 t else V 11 i) ∧ (∀ w, w < 5 → V3 5 w = if V 9 t = -1 ∧ V 5 w = t then (m : Int) else V 5 w) ∧ ∀ j, j ≠ 5 → j ≠ 9 → j ≠ 10 → j ≠ 11 → V3 j = V2 j := by
    by_cases r : V 9 t = -1
    · have E : V3 = up V2 5 (v_wo V2 t) m := by
        rw [hV3]
        unfold v_repl
        rw [ga_in ht, qj 9 (by decide), if_pos r]
      obtain ⟨w, w1, w2, w3⟩ := h.ro ht (by omega) r
      have W : v_wo V2 t = w := by
        have tp : v_top V2 23 t = t := by
          show (if ga (V2 9) 23 t = -1 then (t : Int) else _) = _
          rw [ga_in ht, qj 9 (by decide), if_pos r]
        unfold v_wo
        rw [tp, if_neg (by omega), qj 5 (by decide)]
        refine fnd_un w1 (by simp [w3]) (fun k hk e => ?_)
        rw [decide_eq_true_eq] at e
        exact h.un hk w1 e w3
      rw [E, W]
      refine ⟨fun i => by rw [up_ne (by decide)], fun i => ?_, fun i hi q => ?_, fun i hi q => ?_, fun v hv => ?_, fun j a _ _ _ => up_ne a⟩
      · rw [up_ne (by decide), qj 9 (by decide)]
        by_cases e : i = m
        · rw [if_pos e, e, m9, r]
        · rw [if_neg e]
          by_cases e2 : i = t
          · rw [if_pos e2, e2, r]
          · rw [if_neg e2]
      · rw [up_ne (by decide), qj 10 (by decide), if_neg (by rcases q with q | q; exact q; exact absurd r q)]
      · rw [up_ne (by decide), qj 11 (by decide), if_neg (by rcases q with q | q; exact q; exact absurd r q)]
      · rw [up5 w1, qj 5 (by decide)]
        by_cases e : v = w
        · rw [if_pos e, if_pos ⟨r, by rw [e]; exact w3⟩]
        · rw [if_neg e, if_neg (fun z => e (h.un hv w1 z.2 w3))]
    · have E : V3 = up (up (up (up V2 9 t (-1)) 9 m (V 9 t)) 10 m (V 10 t)) 11 m (V 11 t) := by
        rw [hV3]
        unfold v_repl
        rw [ga_in ht, ga_in ht, ga_in ht, qj 9 (by decide), qj 10 (by decide), qj 11 (by decide), if_neg r]
      rw [E]
      refine ⟨fun i => ?_, fun i => ?_, fun i hi q => ?_, fun i hi q => ?_, fun v hv => ?_, fun j a b c e => by rw [up_ne e, up_ne c, up_ne b, up_ne b]⟩
      · rw [up_ne (by decide), up_ne (by decide), up_ne (by decide), up_ne (by decide)]
      · rw [up_ne (by decide), up_ne (by decide), up9 hm, up9 ht, qj 9 (by decide)]
      · rw [up_ne (by decide), up10 hm, up_ne (by decide), up_ne (by decide), qj 10 (by decide)]
      · rw [up11 hm, up_ne (by decide), up_ne (by decide), up_ne (by decide), qj 11 (by decide)]
      · rw [up_ne (by decide), up_ne (by decide), up_ne (by decide), up_ne (by decide), qj 5 (by decide), if_neg (fun z => r z.1)]
  obtain ⟨R8, R9, R10, R11, R5, Rj⟩ := R
  obtain ⟨A9, A10, A11, Aj⟩ := at_rows (V := V3) (n := t) (s := m) (k := 0) (w := 1000) ht
  obtain ⟨V4, hV4⟩ : ∃ V4, V4 = v_attach V3 t m 0 1000 := ⟨_, rfl⟩
  rw [← hV4] at A9 A10 A11 Aj ⊢
  obtain ⟨B9, B10, B11, Bj⟩ := at_rows (V := V4) (n := f) (s := m) (k := v_beh side) (w := 1000) hf
  obtain ⟨V5, hV5⟩ : ∃ V5, V5 = v_attach V4 f m (v_beh side) 1000 := ⟨_, rfl⟩
  rw [← hV5] at B9 B10 B11 Bj ⊢
  have c8 : ∀ i, i < 23 → V5 8 i = if i = m then v_dir side else if i = f then 2 else V 8 i := fun i hi => by
    rw [Bj 8 (by decide) (by decide) (by decide), Aj 8 (by decide) (by decide) (by decide), R8 i, q8 i]
  have c9 : ∀ i, i < 23 → V5 9 i = if i = m then V 9 t else if i = t ∨ i = f then (m : Int) else V 9 i := fun i hi => by
    rw [B9 i, A9 i, R9 i]
    by_cases e1 : i = f
    · rw [if_pos e1, if_neg (fun z => nmf (by omega)), if_pos (Or.inr e1)]
    · rw [if_neg e1]
      by_cases e2 : i = t
      · rw [if_pos e2, if_neg (fun z => ntm (by omega)), if_pos (Or.inl e2)]
      · rw [if_neg e2]
        by_cases e3 : i = m
        · rw [if_pos e3, if_pos e3]
        · rw [if_neg e3, if_neg e3, if_neg e2, if_neg (fun z => z.elim e2 e1)]
  have s4 : ∀ i, i < 23 → V4 9 i = m → i = t := fun i hi q => by
    rw [A9 i, R9 i] at q
    by_cases e2 : i = t
    · exact e2
    · rw [if_neg e2] at q
      by_cases e3 : i = m
      · rw [if_pos e3] at q
        exact absurd q (nof t ht)
      · rw [if_neg e3, if_neg e2] at q
        exact absurd q (nof i hi)
  have s3 : ∀ i, i < 23 → V3 9 i ≠ m := fun i hi q => by
    rw [R9 i] at q
    by_cases e3 : i = m
    · rw [if_pos e3] at q
      exact nof t ht q
    · rw [if_neg e3] at q
      by_cases e2 : i = t
      · rw [if_pos e2] at q
        omega
      · rw [if_neg e2] at q
        exact nof i hi q
  have c10 : ∀ i, i < 23 → V5 9 i ≠ -1 → V5 10 i = if i = m then V 10 t else if i = t then 1 - v_beh side else if i = f then v_beh side else V 10 i := fun i hi q => by
    rw [B10 i]
    by_cases e1 : i = f
    · rw [if_pos e1, if_neg (fun z => nmf (by omega)), if_neg (fun z => ntf (by omega)), if_pos e1]
    · rw [if_neg e1]
      by_cases e2 : i = t
      · have a9 : V4 9 i = m := by rw [A9 i, if_pos e2]
        have a10 : V4 10 i = 0 := by rw [A10 i, if_pos e2]
        rw [if_neg (c := i = m) (fun z => ntm (by omega)), if_pos (c := i = t) e2, a10]
        rcases bb with b | b
        · rw [b, if_pos ⟨hi, a9, by omega⟩]
          rfl
        · rw [b, if_neg (fun z => by omega)]
          rfl
      · rw [if_neg (fun z => e2 (s4 i hi z.2.1)), A10 i, if_neg e2, if_neg (fun z => s3 i hi z.2.1)]
        rw [c9 i hi] at q
        rw [R10 i hi (by
          by_cases e3 : i = m
          · rw [if_pos e3] at q
            exact Or.inr q
          · exact Or.inl e3)]
        by_cases e3 : i = m
        · rw [if_pos e3, if_pos e3]
        · rw [if_neg e3, if_neg e3, if_neg e2, if_neg e1]
  have c11 : ∀ i, i < 23 → V5 9 i ≠ -1 → V5 11 i = if i = m then V 11 t else if i = t ∨ i = f then 1000 else V 11 i := fun i hi q => by
    rw [B11 i, A11 i]
    by_cases e1 : i = f
    · rw [if_pos e1, if_neg (fun z => nmf (by omega)), if_pos (Or.inr e1)]
    · rw [if_neg e1]
      by_cases e2 : i = t
      · rw [if_pos e2, if_neg (fun z => ntm (by omega)), if_pos (Or.inl e2)]
      · rw [if_neg e2]
        rw [c9 i hi] at q
        rw [R11 i hi (by
          by_cases e3 : i = m
          · rw [if_pos e3] at q
            exact Or.inr q
          · exact Or.inl e3)]
        by_cases e3 : i = m
        · rw [if_pos e3, if_pos e3]
        · rw [if_neg e3, if_neg e3, if_neg (fun z => z.elim e2 e1)]
  have c5 : ∀ w, w < 5 → V5 5 w = if V 9 t = -1 ∧ V 5 w = t then (m : Int) else V 5 w := fun w hw => by
    rw [Bj 5 (by decide) (by decide) (by decide), Aj 5 (by decide) (by decide) (by decide), R5 w hw]
  refine ⟨_, _, h.between ht hm hf k2 hkm hkf nmf (by omega) (by omega) c8 c9 c10 c11 c5, ⟨?_, hkf, ?_, fun n hn q => ?_, fun n hn q => ?_, fun w hw => ?_, fun j a5 a8 a9 a10 a11 => ?_⟩, c8, c9, c10, c11, c5⟩
  · rw [c8 f hf, if_neg (fun z => nmf z.symm), if_pos rfl]
  · dsimp only
    rw [if_pos (Or.inr rfl)]
  · have n1 : n ≠ m := fun z => by rw [z] at q; exact q hkm
    have n2 : n ≠ f := fun z => by rw [z] at q; exact q hkf
    refine ⟨by rw [c8 n hn, if_neg n1, if_neg n2], ?_⟩
    dsimp only
    rw [if_neg (fun z => z.elim n1 n2)]
  · rw [c8 n hn] at q
    by_cases e1 : n = m
    · rw [if_pos e1] at q
      omega
    · rw [if_neg e1] at q
      by_cases e2 : n = f
      · exact Or.inl e2
      · rw [if_neg e2] at q
        exact Or.inr q
  · rw [c5 w hw]
    by_cases e : V 9 t = -1 ∧ V 5 w = t
    · rw [if_pos e, e.2]
      omega
    · rw [if_neg e]
  · rw [Bj j a9 a10 a11, Aj j a9 a10 a11, Rj j a5 a9 a10 a11, qj j a8]
theorem bes1_ok {V : VW} {d : Nat → Nat} {wn : Nat → Int} {X : Nat → Bool} (h : Tree V d wn X) {t f s : Nat} (ht : t < 23) (k2 : V 8 t = 2) (hf : f < 23) (hkf : V 8 f = 3) (hs : V 9 t = s) (side : Int) : ∃ d' wn', Tree (v_bes1 V t side f (up V 8 f 2)) d' wn' X ∧ Bes V (v_bes1 V t side f (up V 8 f 2)) t f wn wn' ∧
    (∀ i, i < 23 → v_bes1 V t side f (up V 8 f 2) 8 i = if i = f then 2 else V 8 i) ∧
    (∀ i, i < 23 → v_bes1 V t side f (up V 8 f 2) 9 i = if i = f then (s : Int) else V 9 i) ∧
    (∀ i, i < 23 → v_bes1 V t side f (up V 8 f 2) 9 i ≠ -1 → v_bes1 V t side f (up V 8 f 2) 10 i = if i = f then V 10 t + v_beh side else if V 9 i = s ∧ V 10 t + v_beh side ≤ V 10 i then V 10 i + 1 else V 10 i) ∧
    (∀ i, i < 23 → v_bes1 V t side f (up V 8 f 2) 11 i = if i = f then max 1 (V 11 t / 2) else if i = t then max 1 (V 11 t - V 11 t / 2) else V 11 i) ∧
    (∀ w, w < 5 → v_bes1 V t side f (up V 8 f 2) 5 w = V 5 w) := by
  obtain ⟨s1, s2, s3, s4⟩ := h.par ht hs
  have ntf : t ≠ f := fun z => by rw [z] at k2; omega
  have f9 := h.fr hf hkf
  have bb := beh_rg side
  obtain ⟨w1, w2⟩ := h.we ht (by omega)
  obtain ⟨nu, -⟩ := h.sp s1 s2
  have pt := nu.1 t ht (by simp [hs])
  have c23 := cnt_le (fun n => decide (V 9 n = (s : Int))) 23
  have dv : Int.tdiv (V 11 t) 2 = V 11 t / 2 := Int.tdiv_eq_ediv_of_nonneg (by omega)
  unfold v_bes1
  rw [ga_in ht, ga_in ht, ga_in ht, hs, dv, wr_id (x := V 11 t / 2) (by omega) (by omega), wr_id (x := V 11 t - V 11 t / 2) (by omega) (by omega), wr_id (x := V 10 t + v_beh side) (by omega) (by omega)]
  obtain ⟨V2, hV2⟩ : ∃ V2, V2 = up (up V 8 f 2) 11 t (max 1 (V 11 t - V 11 t / 2)) := ⟨_, rfl⟩
  rw [← hV2]
  obtain ⟨A9, A10, A11, Aj⟩ := at_rows (V := V2) (n := f) (s := s) (k := V 10 t + v_beh side) (w := max 1 (V 11 t / 2)) hf
  obtain ⟨V3, hV3⟩ : ∃ V3, V3 = v_attach V2 f s (V 10 t + v_beh side) (max 1 (V 11 t / 2)) := ⟨_, rfl⟩
  rw [← hV3] at A9 A10 A11 Aj ⊢
  have c8 : ∀ i, i < 23 → V3 8 i = if i = f then 2 else V 8 i := fun i _ => by
    rw [Aj 8 (by decide) (by decide) (by decide), hV2, up_ne (by decide), up8 hf]
  have q9 : V2 9 = V 9 := by rw [hV2, up_ne (by decide), up_ne (by decide)]
  have q10 : V2 10 = V 10 := by rw [hV2, up_ne (by decide), up_ne (by decide)]
  have c9 : ∀ i, i < 23 → V3 9 i = if i = f then (s : Int) else V 9 i := fun i _ => by rw [A9 i, q9]
  have c10 : ∀ i, i < 23 → V3 9 i ≠ -1 → V3 10 i = if i = f then V 10 t + v_beh side else if V 9 i = s ∧ V 10 t + v_beh side ≤ V 10 i then V 10 i + 1 else V 10 i := fun i hi _ => by
    rw [A10 i, q9, q10]
    by_cases e : i = f
    · rw [if_pos e, if_pos e]
    · rw [if_neg e, if_neg e]
      by_cases q : V 9 i = s ∧ V 10 t + v_beh side ≤ V 10 i
      · have := nu.1 i hi (by simp [q.1])
        rw [if_pos ⟨hi, q⟩, if_pos q, wr_id (by omega) (by omega)]
      · rw [if_neg (fun z => q z.2), if_neg q]
  have c11 : ∀ i, i < 23 → V3 11 i = if i = f then max 1 (V 11 t / 2) else if i = t then max 1 (V 11 t - V 11 t / 2) else V 11 i := fun i _ => by
    rw [A11 i, hV2, up11 ht, up_ne (by decide)]
  have c5 : ∀ w, w < 5 → V3 5 w = V 5 w := fun w _ => by rw [Aj 5 (by decide) (by decide) (by decide), hV2, up_ne (by decide), up_ne (by decide)]
  refine ⟨_, _, h.enter (X' := X) (c := 2) (k := V 10 t + v_beh side) hf hkf (by omega) s1 s2 (by omega) c8 c9 c10 (fun i hi q => ?_) c5 (fun z => absurd z (by decide)) (fun _ _ => rfl), ⟨?_, hkf, ?_, fun n hn q => ?_, fun n hn q => ?_, fun w hw => by rw [c5 w hw], fun j a5 a8 a9 a10 a11 => ?_⟩, c8, c9, c10, c11, c5⟩
  · rw [c11 i hi]
    by_cases e : i = f
    · rw [if_pos e]
      omega
    · rw [if_neg e]
      by_cases e2 : i = t
      · rw [if_pos e2]
        omega
      · rw [if_neg e2]
        rw [c9 i hi, if_neg e] at q
        exact h.we hi q
  · rw [c8 f hf, if_pos rfl]
  · dsimp only
    rw [if_pos rfl, s4]
  · have n2 : n ≠ f := fun z => by rw [z] at q; exact q hkf
    refine ⟨by rw [c8 n hn, if_neg n2], ?_⟩
    dsimp only
    rw [if_neg n2]
  · rw [c8 n hn] at q
    by_cases e2 : n = f
    · exact Or.inl e2
    · rw [if_neg e2] at q
      exact Or.inr q
  · rw [Aj j a9 a10 a11, hV2, up_ne a11, up_ne a8]

/-! THE RELATION: hits, the class: they end -/
section RAQ
def tot {α : Type} (x : Option α) : Prop := ∃ v, x = some v
theorem tot_s {α : Type} (a : α) : tot (some a) := ⟨a, rfl⟩
theorem tot_b {α β : Type} {x : Option α} {f : α → Option β} (h : tot x) (hf : ∀ a, tot (f a)) : tot (x.bind f) := by
  obtain ⟨a, e⟩ := h
  rw [e, j_b]
  exact hf a
theorem tot_e {α β : Type} {x : Option α} {a : α} {f : α → Option β} (h : x = some a) (hf : tot (f a)) : tot (x.bind f) := by
  rw [h, j_b]
  exact hf
theorem tot_i {α : Type} {c : Prop} [Decidable c] {x y : Option α} (hx : c → tot x) (hy : ¬ c → tot y) : tot (if c then x else y) := by
  by_cases h : c
  · rw [if_pos h]
    exact hx h
  · rw [if_neg h]
    exact hy h
theorem tot_n {α β : Type} {x : α} {f : α → Option β} (h : tot (f x)) : tot (nm x f) := h
variable {σ : Sg}
theorem tot_at (c n : Nat) (hn : n < 2147483648) (p : Int32) : tot (fX8_at σ c n p) := ⟨_, s_at hn p⟩
theorem tq_left (p : Int32) : tot (fX2_leftOf σ 422 p) := by
  unfold fX2_leftOf
  exact tot_b (tot_at _ _ (by decide) _) (fun _ => tot_s _)
theorem tq_top (p : Int32) : tot (fX2_topOf σ 422 p) := by
  unfold fX2_topOf
  exact tot_b (tot_at _ _ (by decide) _) (fun _ => tot_s _)
theorem tq_col (p : Int32) : tot (fX2_columnsOf σ 422 p) := by
  unfold fX2_columnsOf
  exact tot_b (tot_at _ _ (by decide) _) (fun _ => tot_s _)
theorem tq_row (p : Int32) : tot (fX2_rowsOf σ 422 p) := by
  unfold fX2_rowsOf
  exact tot_b (tot_at _ _ (by decide) _) (fun _ => tot_s _)
theorem tq_sh (p : Int32) : tot (fX2_isShown σ 422 p) := ⟨_, s_isShown p⟩
theorem tq_ext (p d : Int32) : tot (fX2_extentOf σ 422 p d) := by
  unfold fX2_extentOf fX2_extentOf_15
  exact tot_i (fun _ => tot_b (tot_at _ _ (by decide) _) (fun _ => tot_s _)) (fun _ => tot_b (tot_at _ _ (by decide) _) (fun _ => tot_s _))
theorem tq_contains (p x y : Int32) : tot (fX2_contains σ 422 p x y) := by
  unfold fX2_contains
  exact tot_b (tq_sh _) (fun _ => tot_i (fun _ => tot_b (tq_left _) (fun _ => tot_i (fun _ => tot_s _) (fun _ => tot_b (tq_left _) (fun _ => tot_b (tq_col _) (fun _ => tot_i (fun _ => tot_s _) (fun _ => tot_b (tq_top _) (fun _ => tot_i (fun _ => tot_s _) (fun _ => tot_b (tq_top _) (fun _ => tot_b (tq_row _) (fun _ => tot_i (fun _ => tot_s _) (fun _ => tot_s _))))))))))) (fun _ => tot_s _))
theorem tq_side95 (p l s : Int32) : tot (fX2_sideAt_95 σ 422 p l s) := by
  unfold fX2_sideAt_95
  exact tot_b ⟨_, s_dirb _⟩ (fun _ => tot_b (tq_ext _ _) (fun _ => tot_i (fun _ => tot_s _) (fun _ => tot_s _)))
theorem tq_side (p x y : Int32) : tot (fX2_sideAt σ 422 p x y) := by
  unfold fX2_sideAt
  refine tot_b (tq_left _) (fun _ => tot_n ?_)
  refine tot_b (tq_col _) (fun _ => tot_n ?_)
  refine tot_b (tq_top _) (fun _ => tot_n ?_)
  refine tot_b (tq_row _) (fun _ => tot_n (tot_n (tot_n (tot_n ?_))))
  exact tot_i (fun _ => tq_side95 _ _ _) (fun _ => tot_i (fun _ => tq_side95 _ _ _) (fun _ => tot_i (fun _ => tq_side95 _ _ _) (fun _ => tq_side95 _ _ _)))
theorem t_front19 (x y : Int32) : ∀ (m fuel : Nat) (l : Int32), l.toInt = (m : Int) - 1 → m ≤ 12 → m < fuel → tot (fX8_frontWindowAt_19 σ fuel x y l)
  | m, 0, _, _, _, hf => absurd hf (by omega)
  | 0, f + 1, l, hl, _, _ => by
    rw [fX8_frontWindowAt_19, if_pos (by rw [j_lt, hl, jz0]; decide)]
    exact tot_b (s_windowContains _ _ _) (fun _ => tot_i (fun _ => tot_s _) (fun _ => tot_s _))
  | m + 1, f + 1, l, hl, hm, hf => by
    have hl2 : l.toInt = m := by omega
    rw [fX8_frontWindowAt_19, if_neg (by rw [j_lt, hl2, jz0]; omega)]
    refine tot_b ⟨_, s_item _⟩ (fun _ => tot_b (s_windowContains _ _ _) (fun _ => tot_i (fun _ => tot_b ⟨_, s_item _⟩ (fun _ => tot_s _)) (fun _ => ?_)))
    refine t_front19 x y m f (l + (-1)) ?_ (by omega) (by omega)
    rw [j_add (by rw [hl2, jm1]; omega) (by rw [hl2, jm1]; omega), hl2, jm1]
    omega
theorem t_front (ok : OkO (odv σ (1 + 5 + 6))) (x y : Int32) : tot (fX8_frontWindowAt σ x y) := by
  unfold fX8_frontWindowAt
  refine tot_e s_size (tot_n ?_)
  have o1 := ok.1
  have o2 := ok.2
  have t : (oI (odv σ (1 + 5 + 6)).1).toInt = (odv σ (1 + 5 + 6)).1 := j_oI (by omega) (by omega)
  refine t_front19 x y (odv σ (1 + 5 + 6)).1.toNat FU _ ?_ (by omega) (by show _ < 6000; omega)
  rw [j_sub (by rw [t, jz1]; omega) (by rw [t, jz1]; omega), t, jz1]
  omega
theorem t_group (w x y : Int32) : tot (fX8_groupAt σ w x y) := by
  unfold fX8_groupAt
  refine lpx (F := fun f (l : Int32) => fX8_groupAt_12 σ f w x y l) (Q := fun o => tot o) (fun i l => l = nI i) 23 ?_ ?_ 23 0 FU 0 rfl (by decide) rfl
  · rintro f i _ hi rfl
    have nle : ¬ (23 : Int32) ≤ nI i := n_ge 23 (m := 23) rfl hi (by decide)
    have fin : ∀ s0 : Int32, tot (fX8_groupAt_54 σ (fX8_groupAt_12 σ f) w x y (nI i) s0) ∨ fX8_groupAt_54 σ (fX8_groupAt_12 σ f) w x y (nI i) s0 = fX8_groupAt_12 σ f w x y (nI (i + 1)) := fun s0 => by
      unfold fX8_groupAt_54 fX8_groupAt_75
      rw [s_windowOf, j_b, j_s]
      by_cases z : s0 = 0
      · rw [if_pos z]
        exact Or.inr rfl
      · rw [if_neg z]
        by_cases u : oI (v_wo (pv σ (1 + 5)) (nI i).toInt) = w
        · rw [if_pos u]
          exact Or.inl (tot_s _)
        · rw [if_neg u]
          exact Or.inr rfl
    have goal : ∀ o, o = fX8_groupAt_12 σ (f + 1) w x y (nI i) → tot o ∨ ∃ s' : Int32, s' = nI (i + 1) ∧ o = fX8_groupAt_12 σ f w x y s' := fun o ho => by
      rw [fX8_groupAt_12, if_neg nle] at ho
      by_cases a : w = -1
      · rw [if_pos a] at ho
        exact Or.inl (by rw [ho]; exact tot_s _)
      · rw [if_neg a, s_kindOf, j_b] at ho
        obtain ⟨v, ev⟩ := tq_contains (σ := σ) (nI i) x y
        rw [ev, j_b] at ho
        have key : ∀ s0 : Int32, o = fX8_groupAt_54 σ (fX8_groupAt_12 σ f) w x y (nI i) s0 → tot o ∨ ∃ s' : Int32, s' = nI (i + 1) ∧ o = fX8_groupAt_12 σ f w x y s' := fun s0 e => by
          rcases fin s0 with u | u
          · exact Or.inl (by rw [e]; exact u)
          · exact Or.inr ⟨_, rfl, by rw [e]; exact u⟩
        by_cases b : oI (ga (pv σ (1 + 5) 8) 23 (nI i).toInt) = 2
        · rw [if_pos b] at ho
          by_cases c : v = true
          · rw [if_pos c] at ho
            exact key 1 ho
          · rw [if_neg c] at ho
            exact key 0 ho
        · rw [if_neg b] at ho
          exact key 0 ho
    exact goal _ rfl
  · rintro f _ rfl
    show tot (fX8_groupAt_12 σ (f + 1) w x y (nI 23))
    rw [fX8_groupAt_12, if_pos (n_le 23 (m := 23) rfl (by decide))]
    exact tot_s _
theorem t_kindAt (ok : OkO (odv σ (1 + 5 + 6))) (x y : Int32) : tot (fX8_kindAt σ x y) := by
  unfold fX8_kindAt
  exact tot_b (t_front ok x y) (fun _ => tot_b ⟨_, s_rootOf _⟩ (fun _ => tot_b (tq_sh _) (fun _ => tot_i (fun _ => tot_b (t_group _ _ _) (fun _ => tot_i (fun _ => tot_s _) (fun _ => tot_b (tq_top _) (fun _ => tot_i (fun _ => tot_s _) (fun _ => tot_s _))))) (fun _ => tot_s _))))
theorem t_tab (g x : Int32) : tot (fX8_paneOfTab σ g x) := by
  unfold fX8_paneOfTab fX8_paneOfTab_65
  refine tot_e (s_shownCount _) (tot_i (fun h1 => tot_b (tq_col _) (fun c => ?_)) (fun _ => tot_s _))
  have n0 : ¬ oI (v_sc (pv σ (1 + 5)) g.toInt : Int) = 0 := fun z => by
    rw [z] at h1
    exact absurd h1 (by decide)
  rw [if_neg n0]
  refine tot_n (tot_n (tot_i (fun h2 => tot_b (tq_left _) (fun _ => ?_)) (fun _ => tot_b ⟨_, s_shownTabAt _ _⟩ (fun _ => tot_s _))))
  have n1 : ¬ c / oI (v_sc (pv σ (1 + 5)) g.toInt : Int) = 0 := fun z => by
    rw [z] at h2
    exact absurd h2 (by decide)
  rw [if_neg n1]
  exact tot_n (tot_b ⟨_, s_shownTabAt _ _⟩ (fun _ => tot_s _))
theorem t_paneAt (ok : OkO (odv σ (1 + 5 + 6))) (x y : Int32) : tot (fX8_paneAt σ x y) := by
  unfold fX8_paneAt
  exact tot_b (t_front ok x y) (fun _ => tot_b (t_group _ _ _) (fun _ => tot_i (fun _ => tot_s _) (fun _ => tot_b (tq_top _) (fun _ => tot_i (fun _ => tot_b (t_tab _ _) (fun _ => tot_s _)) (fun _ => tot_b ⟨_, s_activeOf _⟩ (fun _ => tot_s _))))))
theorem t_dropAt (ok : OkO (odv σ (1 + 5 + 6))) (x y : Int32) : tot (fX8_dropAt σ x y) := by
  unfold fX8_dropAt fX8_dropAt_46
  exact tot_b (t_front ok x y) (fun _ => tot_b (t_group _ _ _) (fun _ => tot_i (fun _ => tot_s _) (fun _ => tot_b (tq_top _) (fun _ => tot_i (fun _ => tot_b ⟨_, s_activeOf _⟩ (fun _ => tot_s _)) (fun _ => tot_b (tq_side _ _ _) (fun _ => tot_b ⟨_, s_activeOf _⟩ (fun _ => tot_s _)))))))
end RAQ

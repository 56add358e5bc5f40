/-! THE RELATION: hits, the reference: they end -/
section RAR
variable {s : Sg} {V : VW} {d : Nat → Nat} {wn : Nat → Int}
theorem m_insT (x y a b c e : Int32) : tot (fX9_isInside s 462 x y a b c e) := by
  unfold fX9_isInside
  exact tot_i (fun _ => tot_s _) (fun _ => tot_i (fun _ => tot_s _) (fun _ => tot_i (fun _ => tot_s _) (fun _ => tot_i (fun _ => tot_s _) (fun _ => tot_s _))))
theorem m_isInT (h : VM (mv (s.1 463)) V (fun _ => false)) (w x y : Int32) : ∃ b, fX9_isIn s 462 w x y = some b ∧ (b = true → v_we V w.toInt = true) := by
  unfold fX9_isIn
  rw [m_isW h, j_b]
  cases q : v_we V w.toInt
  · rw [if_neg Bool.false_ne_true]
    exact ⟨false, rfl, fun z => by cases z⟩
  · obtain ⟨k, hk, hk5, -⟩ := v_we_n q
    rw [if_pos rfl, m_w1 hk hk5, j_b, m_w2 hk hk5, j_b, m_w3 hk hk5, j_b, m_w4 hk hk5, j_b]
    obtain ⟨b, e⟩ := m_insT (s := s) x y (oI (mv (s.1 463) 13 k)) (oI (mv (s.1 463) 14 k)) (oI (mv (s.1 463) 15 k)) (oI (mv (s.1 463) 16 k))
    rw [e, j_b]
    cases b
    · exact ⟨false, rfl, fun _ => rfl⟩
    · exact ⟨true, rfl, fun _ => rfl⟩
theorem m_wAt11 (h : VM (mv (s.1 463)) V (fun _ => false)) (x y : Int32) : ∀ (m fuel : Nat) (l : Int32), l.toInt = (m : Int) - 1 → m ≤ 4 → m < fuel → ∃ w, fX9_windowAt_11 s 462 fuel x y l = some w ∧ (w.toInt = -1 ∨ v_we V w.toInt = true)
  | m, 0, _, _, _, hf => absurd hf (by omega)
  | 0, f + 1, l, hl, _, _ => by
    rw [fX9_windowAt_11, if_pos (by rw [j_lt, hl, jz0]; decide)]
    obtain ⟨b, e, -⟩ := m_isInT h 0 x y
    rw [e, j_b]
    cases b
    · exact ⟨-1, rfl, Or.inl rfl⟩
    · exact ⟨0, rfl, Or.inr rfl⟩
  | m + 1, f + 1, l, hl, hm, hf => by
    have hl2 : l.toInt = m := by omega
    have el : 247 + l = nI (247 + m) := by
      have : l = nI m := j_eq.mpr (by rw [hl2, j_nI (by omega)])
      rw [this, show (247 : Int32) = nI 247 from rfl, j_a]
    rw [fX9_windowAt_11, if_neg (by rw [j_lt, hl2, jz0]; omega), el, if_pos (j_ckn (by omega) (by decide)), if_pos (j_ckn (by omega) (by decide))]
    generalize s.1 (462 + 1) (nI (247 + m)).toNatClampNeg = w
    obtain ⟨b, e, eb⟩ := m_isInT h w x y
    rw [e, j_b]
    cases b
    · rw [if_neg Bool.false_ne_true]
      refine m_wAt11 h x y m f (l + (-1)) ?_ (by omega) (by omega)
      rw [j_add (by rw [hl2, jm1]; omega) (by rw [hl2, jm1]; omega), hl2, jm1]
      omega
    · rw [if_pos rfl]
      exact ⟨w, rfl, Or.inr (eb rfl)⟩
theorem m_wAt (h : VM (mv (s.1 463)) V (fun _ => false)) (lo : LO (odp V) 5 (flw V)) (x y : Int32) : ∃ w, fX9_windowAt s 462 x y = some w ∧ (w.toInt = -1 ∨ v_we V w.toInt = true) := by
  have F := fl4 lo
  have ct := mo_ct (σ := s) (j := 18) (c := 246) (cap := 4) (Or.inl ⟨rfl, rfl, rfl⟩)
  rw [h.oe.1] at ct
  have eo : (odp V).1 = V 6 1 := rfl
  unfold fX9_windowAt
  rw [if_pos (show ck 246 921 from by decide), j_nm, show (246 : Int32).toNatClampNeg = 246 from by decide]
  refine m_wAt11 h x y (V 6 1).toNat FU _ ?_ (by omega) (by show _ < 6000; omega)
  show (s.1 463 246 - 1).toInt = _
  rw [j_sub (by rw [ct, jz1]; omega) (by rw [ct, jz1]; omega), ct, jz1]
  omega
theorem m_gAt (h : VM (mv (s.1 463)) V (fun _ => false)) (t : Tree V d wn (fun _ => false)) (b01 : ∀ n, n < 23 → V 8 n = 2 → mq s 1 n = 0 ∨ mq s 1 n = 1) (lo : LO (odp V) 5 (flw V)) (x y : Int32) : ∃ g, fX9_groupAt s 462 x y = some g ∧ (g = -1 ∨ ∃ n : Nat, n < 23 ∧ g = nI n ∧ V 8 n = 2 ∧ mq s 1 n = 1) := by
  obtain ⟨w, ew, hw⟩ := m_wAt h lo x y
  unfold fX9_groupAt
  rw [ew, j_b]
  refine lpx (F := fun f (l : Int32) => fX9_groupAt_10 s 462 f x y w l) (Q := fun o => ∃ g, o = some g ∧ (g = -1 ∨ ∃ n : Nat, n < 23 ∧ g = nI n ∧ V 8 n = 2 ∧ mq s 1 n = 1)) (fun i l => l = nI i) 24 ?_ ?_ 24 0 FU 0 rfl (by decide) rfl
  · rintro f i _ hi rfl
    have ti : (nI i).toInt = i := j_nI (by omega)
    have nle : ¬ (24 : Int32) ≤ nI i := n_ge 24 (m := 24) rfl hi (by decide)
    have next : fX9_groupAt_107 s 462 (fX9_groupAt_10 s 462 f) x y w (nI i) = fX9_groupAt_10 s 462 f x y w (nI (i + 1)) := by
      unfold fX9_groupAt_107
      rw [j_s]
    have goal : ∀ o, o = fX9_groupAt_10 s 462 (f + 1) x y w (nI i) → (∃ g, o = some g ∧ (g = -1 ∨ ∃ n : Nat, n < 23 ∧ g = nI n ∧ V 8 n = 2 ∧ mq s 1 n = 1)) ∨ ∃ s' : Int32, s' = nI (i + 1) ∧ o = fX9_groupAt_10 s 462 f x y w s' := fun o ho => by
      rw [fX9_groupAt_10, if_neg nle] at ho
      by_cases a : w = -1
      · rw [if_pos a] at ho
        exact Or.inl ⟨-1, ho, Or.inl rfl⟩
      · rw [if_neg a, m_i0 ti hi, j_b, next] at ho
        by_cases b : oI (mv (s.1 463) 0 i) = 2
        · have b2 : mv (s.1 463) 0 i = 2 := by
            rw [j_eq, t_mv] at b
            exact b
          have i23 : i < 23 := by
            refine Classical.byContradiction (fun z => ?_)
            have : i = 23 := by omega
            rw [this, h.l] at b2
            omega
          have k2 : V 8 i = 2 := by
            have kr := t.ki i23
            refine Classical.byContradiction (fun z => ?_)
            have : V 8 i = 3 ∨ V 8 i ≤ 1 := by omega
            rcases this with u | u
            · rw [h.k3 i23 u] at b2; omega
            · rw [(h.k1 i23 u).1] at b2; omega
          have q01 := b01 i i23 k2
          have c4 : ∀ x : Nat, (4 : Int32) * nI x = nI (4 * x) := fun x => (Int32.ofNat_mul 4 x).symm
          rw [if_pos b, if_pos (j_ckn hi (by decide)), j_cl _ (by omega), m_windowOf h t ti i23 (by omega), j_b, c4, if_pos (j_ckn (by omega) (by decide)), j_s, if_pos (j_ckn (by omega) (by decide)), show (2 : Int32) = nI 2 from rfl, show (3 : Int32) = nI 3 from rfl, j_a, j_a, if_pos (j_ckn (by omega) (by decide)), if_pos (j_ckn (by omega) (by decide))] at ho
          obtain ⟨v, ev⟩ := m_insT (s := s) x y (s.1 (462 + 7) (nI (4 * i)).toNatClampNeg) (s.1 (462 + 7) (nI (4 * i + 1)).toNatClampNeg) (s.1 (462 + 7) (nI (4 * i + 2)).toNatClampNeg) (s.1 (462 + 7) (nI (4 * i + 3)).toNatClampNeg)
          rw [ev, j_b] at ho
          by_cases c : s.1 (462 + 5) i = 0
          · rw [if_pos c] at ho
            exact Or.inr ⟨_, rfl, ho⟩
          · rw [if_neg c] at ho
            have m1 : mq s 1 i = 1 := by
              rcases q01 with u | u
              · rw [mq1 (by omega)] at u
                exact absurd (j_eq.mpr (by rw [jz0]; exact u)) c
              · exact u
            by_cases e : oI (wn i) = w
            · rw [if_pos e] at ho
              cases v
              · rw [if_neg Bool.false_ne_true] at ho
                exact Or.inr ⟨_, rfl, ho⟩
              · rw [if_pos rfl] at ho
                exact Or.inl ⟨nI i, ho, Or.inr ⟨i, i23, rfl, k2, m1⟩⟩
            · rw [if_neg e] at ho
              exact Or.inr ⟨_, rfl, ho⟩
        · rw [if_neg b] at ho
          exact Or.inr ⟨_, rfl, ho⟩
    exact goal _ rfl
  · rintro f _ rfl
    show ∃ g, fX9_groupAt_10 s 462 (f + 1) x y w (nI 24) = _ ∧ _
    rw [fX9_groupAt_10, if_pos (n_le 24 (m := 24) rfl (by decide))]
    exact ⟨-1, rfl, Or.inl rfl⟩
/-- a call that ends on both sides -/
def PT (F : Option Int32) (G : Option (Int32 × Sg)) : Prop := ∃ v b σ2, F = some v ∧ G = some (b, σ2) ∧ RR σ2
def TS (G : Option (Int32 × Sg)) (s : Sg) : Prop := ∃ b, G = some (b, s)
theorem TS.so (b : Int32) : TS (some (b, s)) s := ⟨b, rfl⟩
theorem TS.i {c : Prop} [Decidable c] {x y : Option (Int32 × Sg)} (hx : c → TS x s) (hy : ¬ c → TS y s) : TS (if c then x else y) s := by
  by_cases h : c
  · rw [if_pos h]
    exact hx h
  · rw [if_neg h]
    exact hy h
theorem m_kindT (h : VM (mv (s.1 463)) V (fun _ => false)) (t : Tree V d wn (fun _ => false)) (b01 : ∀ n, n < 23 → V 8 n = 2 → mq s 1 n = 0 ∨ mq s 1 n = 1) (lo : LO (odp V) 5 (flw V)) (x y : Int32) : TS ((fX9_windowAt s 462 x y).bind fun r3 => if r3 = (-1) then (fX9_kindAt_32 462 s x y (-1)) else (fX9_window s 462 r3 5 1).bind fun r4 => (fX9_kindAt_32 462 s x y r4)) s := by
  obtain ⟨w, ew, hw⟩ := m_wAt h lo x y
  rw [ew, j_b]
  refine TS.i (fun _ => ?_) (fun hn => ?_)
  · unfold fX9_kindAt_32
    rw [if_pos rfl]
    exact TS.so _
  · have q : v_we V w.toInt = true := hw.resolve_left (fun z => hn (j_eq.mpr (by rw [z, jm1])))
    obtain ⟨k, hk, hk5, -⟩ := v_we_n q
    rw [m_w5 hk hk5, j_b, h.ro hk5]
    unfold fX9_kindAt_32
    rcases t.wi hk5 with z | ⟨n, hn23, e5, -⟩
    · rw [if_pos (by rw [z]; rfl)]
      exact TS.so _
    · have e : oI (V 5 k) = nI n := by rw [e5, j_nIo n (by omega)]
      refine TS.i (fun _ => TS.so _) (fun _ => ?_)
      rw [e, if_pos (j_ckn (by omega) (by decide))]
      refine TS.i (fun _ => TS.so _) (fun _ => ?_)
      obtain ⟨g, eg, hg⟩ := m_gAt h t b01 lo x y
      rw [eg, j_b]
      refine TS.i (fun _ => TS.so _) (fun hn2 => ?_)
      obtain ⟨n2, h23, e2, -, -⟩ := hg.resolve_left hn2
      rw [e2, show (4 : Int32) * nI n2 = nI (4 * n2) from (Int32.ofNat_mul 4 n2).symm, j_s, if_pos (j_ckn (by omega) (by decide))]
      exact TS.i (fun _ => TS.so _) (fun _ => TS.so _)
theorem m_dropT (h : VM (mv (s.1 463)) V (fun _ => false)) {n : Nat} (hn : n < 23) (x y a b : Int32) : TS (fX9_dropAt_56 462 FU s x y (nI n) a b 4 0 0) s := by
  have c4 : (4 : Int32) * nI n = nI (4 * n) := (Int32.ofNat_mul 4 n).symm
  have ti : (nI n).toInt = n := j_nI (by omega)
  have fin : ∀ l6, TS (fX9_dropAt_184 462 s (nI n) l6) s := fun l6 => by
    unfold fX9_dropAt_184
    rw [m_i5 ti (by omega), j_b]
    exact TS.so _
  refine lpx (F := fun f (z : Int32 × Int32 × Int32) => fX9_dropAt_56 462 f s x y (nI n) a b z.1 z.2.1 z.2.2) (Q := fun o => TS o s) (fun i z => z.2.2 = nI i) 4 ?_ ?_ 4 0 FU (4, 0, 0) rfl (by decide) rfl
  · rintro f i ⟨l6, l7, l8⟩ hi e
    simp only at e
    subst e
    have nle : ¬ (4 : Int32) ≤ nI i := n_ge 4 (m := 4) rfl hi (by decide)
    have nx : ∀ l6 l7 : Int32, fX9_dropAt_178 462 (fX9_dropAt_56 462 f) s x y (nI n) a b l6 l7 (nI i) = fX9_dropAt_56 462 f s x y (nI n) a b l6 l7 (nI (i + 1)) := fun l6 l7 => by
      unfold fX9_dropAt_178
      rw [j_s]
    have P157 : ∀ l9 l11 : Int32, ∃ l6' l7', fX9_dropAt_157 462 (fX9_dropAt_56 462 f) s x y (nI n) a b (nI i) l9 l11 = fX9_dropAt_56 462 f s x y (nI n) a b l6' l7' (nI (i + 1)) := fun l9 l11 => by
      unfold fX9_dropAt_157 fX9_dropAt_176
      by_cases u : l9 ≤ 4 * l11
      · rw [if_pos u, nx]
        exact ⟨_, _, rfl⟩
      · rw [if_neg u, nx]
        exact ⟨_, _, rfl⟩
    have P143 : ∀ l9 s0 : Int32, ∃ l6' l7', fX9_dropAt_143 462 (fX9_dropAt_56 462 f) s x y (nI n) a b l6 l7 (nI i) l9 s0 = fX9_dropAt_56 462 f s x y (nI n) a b l6' l7' (nI (i + 1)) := fun l9 s0 => by
      unfold fX9_dropAt_143
      by_cases u : nI i = 0
      · rw [if_pos u]
        exact P157 _ _
      · rw [if_neg u]
        by_cases v : l7 ≤ s0
        · rw [if_pos v, nx]
          exact ⟨_, _, rfl⟩
        · rw [if_neg v]
          exact P157 _ _
    have P122 : ∀ l9 s0 : Int32, ∃ l6' l7', fX9_dropAt_122 462 (fX9_dropAt_56 462 f) s x y (nI n) a b l6 l7 (nI i) l9 s0 = fX9_dropAt_56 462 f s x y (nI n) a b l6' l7' (nI (i + 1)) := fun l9 s0 => by
      unfold fX9_dropAt_122
      by_cases u : (nI i - nI i / 2 * 2) = 0
      · rw [if_pos u]
        exact P143 _ _
      · rw [if_neg u]
        exact P143 _ _
    have P89 : ∀ s0 : Int32, ∃ l6' l7', fX9_dropAt_89 462 (fX9_dropAt_56 462 f) s x y (nI n) a b l6 l7 (nI i) s0 = fX9_dropAt_56 462 f s x y (nI n) a b l6' l7' (nI (i + 1)) := fun s0 => by
      unfold fX9_dropAt_89
      rw [c4, j_s, if_pos (j_ckn (by omega) (by decide)), if_pos (j_ckn (by omega) (by decide))]
      by_cases u : 2 ≤ nI i
      · rw [if_pos u]
        exact P122 _ _
      · rw [if_neg u]
        exact P122 _ _
    have goal : ∀ o, o = fX9_dropAt_56 462 (f + 1) s x y (nI n) a b l6 l7 (nI i) → TS o s ∨ ∃ z' : Int32 × Int32 × Int32, z'.2.2 = nI (i + 1) ∧ o = fX9_dropAt_56 462 f s x y (nI n) a b z'.1 z'.2.1 z'.2.2 := fun o ho => by
      rw [fX9_dropAt_56, if_neg nle, c4, j_s, if_pos (j_ckn (by omega) (by decide))] at ho
      by_cases u : y = s.1 (462 + 7) (nI (4 * n + 1)).toNatClampNeg
      · rw [if_pos u] at ho
        exact Or.inl (by rw [ho]; exact fin _)
      · rw [if_neg u] at ho
        by_cases v : 2 ≤ nI i
        · rw [if_pos v] at ho
          obtain ⟨p, q, e⟩ := P89 b
          exact Or.inr ⟨(p, q, nI (i + 1)), rfl, by rw [ho]; exact e⟩
        · rw [if_neg v] at ho
          obtain ⟨p, q, e⟩ := P89 a
          exact Or.inr ⟨(p, q, nI (i + 1)), rfl, by rw [ho]; exact e⟩
    exact goal _ rfl
  · rintro f ⟨l6, l7, l8⟩ e
    simp only at e
    subst e
    show TS (fX9_dropAt_56 462 (f + 1) s x y (nI n) a b l6 l7 (nI 4)) s
    rw [fX9_dropAt_56, if_pos (n_le 4 (m := 4) rfl (by decide))]
    exact fin _
end RAR

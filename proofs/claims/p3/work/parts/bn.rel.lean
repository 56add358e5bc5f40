/-! THE RELATION: read (18): what a text says, made on both sides: a split -/
section RBN
variable {n : Nat} {c : Nat → Int32} {V : VW} {d : Nat → Nat} {wn : Nat → Int} {X : Nat → Bool}
theorem g27_open {s s6 : Sg} {p u D : Nat} {cn : Nat → Nat} (T : Tt n c) (ms : MS n c s p u D cn) (pn : p ≤ n) (hk : cdm n c p = 72 ∨ cdm n c p = 86) (f' : Nat) (h6 : fX9_opens s 462 1 = some s6) : fX9_goes_27 462 (f' + 1) s 1 1 = fX9_goes_27 462 f' s6 1 1 := by
  have e57 : fX9_goes_57 462 (fX9_goes_27 462 f') s 1 1 = fX9_goes_27 462 f' s6 1 1 := by
    unfold fX9_goes_57
    rw [h6, j_b]
  rw [fX9_goes_27, if_neg (show ¬ ((1 : Int32) = 0) by decide), if_pos ms.2.1, m_next ms.1 T.1 pn, j_b]
  rcases hk with z | z
  · rw [if_pos z, e57]
  · rw [if_neg (by rw [z]; decide), j_b, if_pos z, e57]
theorem r_split (T : Tt n c) : ∀ rt sp w p m V p2 m2 V2 (k : Int), (k = 0 ∧ cdm n c p = 72) ∨ (k = 1 ∧ cdm n c p = 86) → cdm n c (p + 1) = 40 → RKi n c (v_mn V) 0 (p + 2) m (att rt V k sp w) p2 m2 V2 → cdm n c p2 = 41 → RTi n c rt sp w p m V (p2 + 1) m2 V2 := by
  intro rt sp w p m V p2 m2 V2 k hk e40 rk e41 hm
  have n120 := T.1
  have pn : p < n := by
    rcases hk with ⟨_, z⟩ | ⟨_, z⟩
    · exact cd_lt (by decide) z
    · exact cd_lt (by decide) z
  have hk2 : cdm n c p = 72 ∨ cdm n c p = 86 := by
    rcases hk with ⟨_, z⟩ | ⟨_, z⟩
    · exact Or.inl z
    · exact Or.inr z
  have k01 : 0 ≤ k ∧ k ≤ 1 := by
    rcases hk with ⟨z, _⟩ | ⟨z, _⟩ <;> omega
  have way : (if cdm n c p = 86 then (1 : Int) else 0) = k := by
    rcases hk with ⟨z, y⟩ | ⟨z, y⟩
    · rw [y, if_neg (by decide), z]
    · rw [y, if_pos rfl, z]
  have p2n : p2 < n := cd_lt (by decide) e41
  obtain ⟨N, c1, c2, c3, c4, ih⟩ := rk hm
  rw [if_pos rfl] at c2
  refine ⟨N + 1, c1, by omega, by omega, by omega, ?_⟩
  intro d wn X s u D cn nd wt f qq nf D3 hfu hrt h0 hin
  obtain ⟨tr, tb, mk, ms, ns, bm, ⟨u4, al, ax⟩, cd, D99, ox⟩ := qq
  obtain ⟨g, hg, mn, kg, lg⟩ := v_mn_sp (show 1 ≤ cnt (fun n => decide (V 8 n = 3)) 23 from by
    have : N + 1 ≤ cnt (fun n => decide (V 8 n = 3)) 23 := nf
    omega)
  have hD : rt = false → 0 < D := fun z => by
    rw [z] at hrt
    have := of_decide_eq_false hrt.symm
    omega
  obtain ⟨X1, hX1⟩ : ∃ X1 : Nat → Bool, X1 = fun i => X i || i == g := ⟨_, rfl⟩
  obtain ⟨d1, wn1, a1, tr1, i1, i2, i3, i4⟩ := att_all (X' := X1) tr mn hg kg (rt := rt) (sp := sp) (w := w) (k := k) (by omega) h0 (fun z => ⟨(hin z).1, nd (D - 1), (cd (D - 1) (by have := hD z; omega)).2, (hin z).2.1, (hin z).2.2.1⟩) (fun _ => by rw [hX1]; simp) (fun i hi => by rw [hX1]; simp [hi])
  rw [mn] at ih
  obtain ⟨V1, hV1⟩ : ∃ V1 : VW, V1 = att rt V k sp w := ⟨_, rfl⟩
  rw [← hV1] at a1 tr1 i1 i2 i3 i4 ih
  have g9 : V 9 g = -1 := tr.fr hg kg
  -- the reference opens a split
  obtain ⟨s5, o1, o2, o3, o4, o5⟩ := m_open1 T ms ns pn D99 hg ((bm.1 g hg).1 kg) (fun i hi z => lg i hi ((bm.k0 (by omega) (tr.ki (by omega))).mp z)) e40
  rw [way] at o5
  obtain ⟨n0, n1, n2, n3, n4, n5, nj⟩ := nn_rows (U := mv (s.1 463)) (n := g) (k := 1)
  have q0 : ∀ i, mv (s5.1 463) 0 i = if i = g then 1 else mv (s.1 463) 0 i := fun i => by rw [o5, mu_ne (by decide)]; exact n0 i
  have q1 : ∀ i, mv (s5.1 463) 1 i = if i = g then -1 else mv (s.1 463) 1 i := fun i => by rw [o5, mu_ne (by decide)]; exact n1 i
  have q2 : ∀ i, mv (s5.1 463) 2 i = if i = g then k else mv (s.1 463) 2 i := fun i => by
    rw [o5, mu_at, n2 i]
    by_cases z : i = g
    · rw [if_pos z, if_pos z]
    · rw [if_neg z, if_neg z, if_neg z]
  have q3 : ∀ i, i ≠ g → mv (s5.1 463) 3 i = mv (s.1 463) 3 i := fun i ne => by rw [o5, mu_ne (by decide), n3 i, if_neg ne]
  have q4 : ∀ i, i ≠ g → mv (s5.1 463) 4 i = mv (s.1 463) 4 i := fun i ne => by rw [o5, mu_ne (by decide), n4 i, if_neg ne]
  have q5 : ∀ i, mv (s5.1 463) 5 i = if i = g then -1 else mv (s.1 463) 5 i := fun i => by rw [o5, mu_ne (by decide)]; exact n5 i
  have q6 : ∀ j, 6 ≤ j → mv (s5.1 463) j = mv (s.1 463) j := fun j hj => by rw [o5, mu_ne (by omega)]; exact nj j hj
  have bm5 : BMr (mv (s5.1 463)) V1 X1 := by
    rw [hX1]
    exact bm.opn hg k01 a1 g9 q0 q2 q5 (fun i ne => ⟨by rw [q1 i, if_neg ne], q3 i ne, q4 i ne⟩) q6
  obtain ⟨a8, a9, a5, aj⟩ := id a1
  have j12 := aj 12 (by decide) (by decide) (by decide) (by decide) (by decide)
  have j13 := aj 13 (by decide) (by decide) (by decide) (by decide) (by decide)
  have j14 := aj 14 (by decide) (by decide) (by decide) (by decide) (by decide)
  have j15 := aj 15 (by decide) (by decide) (by decide) (by decide) (by decide)
  have g8 : V1 8 g = k := by rw [a8 g hg, if_pos rfl]
  have f1 := frees_one (V := V) (V' := V1) hg kg (k := k) (by omega) a8
  have fu : FU = 6000 := rfl
  obtain ⟨f', rfl⟩ : ∃ f', f = f' + 1 := ⟨f - 1, by omega⟩
  have sub : D + 1 - 1 = D := Nat.add_sub_cancel D 1
  have qq5 : QQ n c V1 d1 wn1 X1 m s5 (p + 2) u (D + 1) (fun i => if i = D then 0 else cn i) (fun i => if i = D then g else nd i) (fun i => if i = D then (s.1 462 22).toInt else wt i) := by
    refine ⟨tr1, att_tabs tb hg kg k01.2 a8 j12 j13 j14 j15, fun q hq b => ?_, o3, o4, bm5, ⟨u4, fun q hq b => ⟨(al q hq b).1, by rw [q6 6 (by decide)]; exact (al q hq b).2⟩, fun q hq b => by rw [j13] at b; rw [q6 6 (by decide)]; exact ax q hq b⟩, fun i hi => ?_, by omega, fun i hi x => ?_⟩
    · rw [j13, j15]
      exact mk q hq b
    · show (if i = D then 0 else cn i) < 1000 ∧ (if i = D then g else nd i) < 23
      by_cases z : i = D
      · rw [if_pos z, if_pos z]
        omega
      · rw [if_neg z, if_neg z]
        exact cd i (by omega)
    · by_cases z : i = g
      · rw [z, g8]
        exact k01.2
      · rw [a8 i hi, if_neg z]
        refine ox i hi ?_
        rw [hX1] at x
        simpa [z] using x
  have cc0 : v_cc V1 g = 0 := by
    rw [v_cc_in]
    exact cnt_zero.mpr (fun i hi => decide_eq_false (i3 i hi))
  obtain ⟨d2, wn2, s6, s7, u7, k7, f7, cn7, r1, r2, r3, qq7, r4, r5, r6, sr7, kp7, r7, r8, r9, r10⟩ := ih d1 wn1 X1 s5 u (D + 1) _ _ _ f' qq5 (by omega) (by omega) (by omega) (by omega) (by rw [sub]; show (g : Int) = ((if D = D then g else nd D : Nat) : Int); rw [if_pos rfl]) (by rw [sub]; show V1 8 (if D = D then g else nd D) ≤ 1; rw [if_pos rfl, g8]; exact k01.2) cc0 (by rw [sub]; show (if D = D then 0 else cn D) = 0; rw [if_pos rfl])
  obtain ⟨tr7, tb7, mk7, ms7, ns7, bm7, ⟨u74, al7, ax7⟩, cd7, D799, ox7⟩ := qq7
  rw [sub] at r5
  have ge := g27_open T ms (by omega) hk2 f' (o1 s6 r1)
  obtain ⟨k', rfl⟩ : ∃ k', k7 = k' + 1 := ⟨k7 - 1, by omega⟩
  obtain ⟨s4, s1, x1, x2, x3, x4, x5, x6, x7, x8⟩ := k1_close T ms7 ns7 (by omega) (by omega) (by omega) e41 (by rw [sub, r5]; exact r6) cd7 k' f7
  rw [sub] at x3 x4 x5 x7 x8
  have ndD : (if D = D then g else nd D) = g := if_pos rfl
  have x5 : s1.1 462 21 = oI ((if D = D then g else nd D : Nat) : Int) := x5
  rw [ndD] at x5
  have kpa : KP rt V V1 := KP.at a1 kg (fun z => (i1 z).2.2.2)
  have kp : KP rt V V2 := kpa.tr kp7
  have ug : V1 8 g ≠ 3 := by rw [g8]; omega
  obtain ⟨y8, y9, y10, y11⟩ := kp7.1 g hg ug
  have cnD : ∀ i, i < D → cn7 i = cn i := fun i hi => by
    have : cn7 i = if i = D then 0 else cn i := r4 i (by omega)
    rw [this, if_neg (by omega)]
  have w10 : rt = false → V2 9 g = nd (D - 1) ∧ V2 10 g = cn (D - 1) ∧ V2 11 g = w ∧ (s.1 462 22).toInt = w := fun z => by
    obtain ⟨j1, j2, j3, _⟩ := i1 z
    obtain ⟨h1, h2, h3, h4, h5⟩ := hin z
    exact ⟨by rw [y9, j1, h2], by rw [y10, j2, h4], by rw [y11, j3], by rw [h5, j_oI (by omega) (by omega)]⟩
  have s41 : s4.1 463 = s7.1 463 := x6
  have e8 : 0 < D → mv (s1.1 463) = mu (mu (mu (mv (s7.1 463)) 1 g (nd (D - 1))) 4 g (cn (D - 1))) 3 g w := fun z => by
    have rf : rt = false := by rw [hrt]; exact decide_eq_false (by omega)
    have h8 : mv (s1.1 463) = mu (mu (mu (mv (s7.1 463)) 1 (if D = D then g else nd D : Nat) ((if D - 1 = D then g else nd (D - 1) : Nat) : Int)) 4 (if D = D then g else nd D : Nat) ((cn7 (D - 1) : Nat) : Int)) 3 (if D = D then g else nd D : Nat) (oI (if D = D then (s.1 462 22).toInt else wt D)).toInt := x8 z
    have wb := (hin rf).1
    rw [ndD, if_neg (by omega), if_pos rfl, cnD (D - 1) (by omega), (w10 rf).2.2.2, j_oI (by omega) (by omega)] at h8
    exact h8
  have rk1 : ∀ k, k ≠ 1 → k ≠ 3 → k ≠ 4 → mv (s1.1 463) k = mv (s7.1 463) k := fun k z1 z3 z4 => by
    by_cases z : D = 0
    · rw [x7 z, s41]
    · rw [e8 (by omega), mu_ne z3, mu_ne z4, mu_ne z1]
  have r11 : ∀ i, i ≠ g → mv (s1.1 463) 1 i = mv (s7.1 463) 1 i := fun i hi => by
    by_cases z : D = 0
    · rw [x7 z, s41]
    · rw [e8 (by omega), mu_ne (by decide), mu_ne (by decide), mu_at, if_neg hi]
  have bm1 : BMr (mv (s1.1 463)) V2 X := by
    refine BMr.oc (O := fun i => X1 i && i != g) ?_ (fun i hi => ?_)
    · by_cases z : D = 0
      · rw [x7 z, s41]
        have rt1 : rt = true := by rw [hrt]; exact decide_eq_true z
        refine bm7.rt (by rw [y9]; exact (i2 rt1).1) ?_
        rw [sr7.2.1 g hg ug, q1 g, if_pos rfl]
      · have rf : rt = false := by rw [hrt]; exact decide_eq_false z
        rw [e8 (by omega)]
        exact bm7.jn (w10 rf).1 (w10 rf).2.1 (w10 rf).2.2.1
    · rw [hX1]
      show X i = ((X i || i == g) && i != g)
      by_cases z : i = g
      · rw [z]
        cases hx : X g
        · simp
        · have := ox g hg hx
          omega
      · have y1 : (i == g) = false := by simpa using z
        have y2 : (i != g) = true := by simpa using z
        rw [y1, y2, Bool.or_false, Bool.and_true]
  have sr : SR V s s1 := by
    refine ⟨(o2.tr sr7.1).tr x2, fun i hi q => ?_, fun k hk => ?_⟩
    · have ne : i ≠ g := fun z => q (by rw [z]; exact kg)
      rw [r11 i ne, sr7.2.1 i hi (kpa.us hi q), q1 i, if_neg ne]
    · rw [rk1 k (by omega) (by omega) (by omega), sr7.2.2 k hk, q6 k (by omega)]
  refine ⟨d2, wn2, s1, u7, k', f7, ?_, ⟨?_, tb7, mk7, ?_, ?_, bm1, ⟨u74, fun q hq b => ?_, fun q hq b => by rw [rk1 6 (by decide) (by decide) (by decide)]; exact ax7 q hq b⟩, fun i hi => ?_, D99, fun i hi x => ?_⟩, sr, kp, by omega, by omega, by omega, fun t ht ht1 => ?_, fun z => ?_⟩
  · rw [ge, r3, x1]
  · refine tr7.drop (fun t ht ht1 z1 z2 => ?_)
    have e : t = g := by
      rw [hX1] at z1
      simpa [z2] using z1
    rw [e, ← v_cc_in]
    exact r6
  · refine MS.cg x3 (fun i hi => ?_)
    unfold bump
    by_cases z : i + 1 = D
    · rw [if_pos z, if_pos z, cnD i hi]
    · rw [if_neg z, if_neg z, cnD i hi]
  · intro i hi
    have : s1.1 472 i = oI ((if i = D then g else nd i : Nat) : Int) ∧ s1.1 474 i = oI (if i = D then (s.1 462 22).toInt else wt i) := x4 i hi
    rw [if_neg (by omega), if_neg (by omega)] at this
    exact this
  · refine ⟨(al7 q hq b).1, ?_⟩
    rw [rk1 6 (by decide) (by decide) (by decide)]
    exact (al7 q hq b).2
  · refine ⟨?_, (cd i hi).2⟩
    unfold bump
    by_cases z : i + 1 = D
    · rw [if_pos z]
      have rf : rt = false := by rw [hrt]; exact decide_eq_false (by omega)
      have o4 := (hin rf).2.2.2.1
      have := v_cc_le V sp
      have : i = D - 1 := by omega
      rw [this]
      omega
    · rw [if_neg z]
      exact (cd i hi).1
  · have h1 := ox i hi x
    rw [(kp.1 i hi (by omega)).1]
    exact h1
  · have ne : t ≠ g := fun z => by rw [z] at ht1; omega
    have u1 : V1 8 t ≤ 1 := by rw [a8 t ht, if_neg ne]; exact ht1
    rw [r10 t ht u1 (by omega)]
    exact i4 t ht ht1
  · exact ⟨g, hg, by rw [kp7.2.2 0 (by omega) (Or.inr rfl)]; exact (i2 z).2, x5⟩
end RBN

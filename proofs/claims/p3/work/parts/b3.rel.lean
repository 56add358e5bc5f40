/-! THE RELATION: write (3): the text of a tree, the class's side -/
section RB3
variable {σ s : Sg} {W : List Int32} {V : VW} {d : Nat → Nat} {wn : Nat → Int}
def kds (V : VW) (T : Int → List Int32) (n : Int) : Nat → List Int32
  | 0 => []
  | k + 1 => kds V T n k ++ ([if k = 0 then 40 else 44] ++ (numl (oI (ga (V 11) 23 (v_ca V n k))) ++ ([58] ++ T (v_ca V n k))))
def txt (V : VW) : Nat → Int → List Int32
  | 0, _ => []
  | e + 1, n => if ga (V 8) 23 n = 2 then tbl V n (v_tc V n) else [if ga (V 8) 23 n = 0 then 72 else 86] ++ (kds V (txt V e) n (v_cc V n) ++ [41])
def Zn (V : VW) (n : Nat) : Int := 2 * gl V n - 1
def Qn (V : VW) (n k : Nat) : Int := Sm (Zn V) ((kids V n).take k)
theorem Zn_pos {n : Nat} (hn : n < 23) (hu : V 8 n ≠ 3) : 1 ≤ Zn V n ∧ Zn V n ≤ 45 := by
  have := gl_pos (V := V) hn hu
  unfold Zn
  omega
theorem Qn_0 (V : VW) (n : Nat) : Qn V n 0 = 0 := rfl
theorem Qn_s (t : Tree V d wn (fun _ => false)) {n : Nat} (hn : n < 23) (ks : V 8 n ≤ 1) {k : Nat} (hk : k < v_cc V n) {c : Nat} (hc : v_ca V n k = c) : Qn V n (k + 1) = Qn V n k + Zn V c := by
  obtain ⟨c', h1, h2, h3, h4, h5⟩ := t.kid hn ks hk
  have e : c' = c := by omega
  subst e
  unfold Qn
  rw [List.take_succ, h5, Sm_app]
  show _ + (Zn V c' + 0) = _
  omega
theorem Qn_le (t : Tree V d wn (fun _ => false)) {n : Nat} (hn : n < 23) (ks : V 8 n ≤ 1) (k : Nat) : Qn V n k + 1 ≤ Zn V n := by
  have mem : ∀ c ∈ kids V n, c < 23 ∧ V 9 c = n := fun c hc => (t.kids_mem hn ks).mp hc
  have pos : ∀ c ∈ kids V n, 0 ≤ Zn V c := fun c hc => by
    have m := mem c hc
    have := Zn_pos m.1 (t.us m.1 (by omega))
    omega
  have a1 : Qn V n k ≤ Sm (Zn V) (kids V n) := by
    have e : Sm (Zn V) (kids V n) = Sm (Zn V) ((kids V n).take k) + Sm (Zn V) ((kids V n).drop k) := by
      rw [← Sm_app, List.take_append_drop]
    have : 0 ≤ Sm (Zn V) ((kids V n).drop k) := Sm_nn (fun c hc => pos c (List.mem_of_mem_drop hc))
    unfold Qn
    omega
  have a2 : Sm (fun c => (gl V c : Int)) (kids V n) ≤ gl V n := Int.le_trans (Sm_sub (t.kids_nd hn ks) mem _ (fun c => by omega)) (t.gl_le n)
  have a3 : Sm (fun c => Zn V c + 1) (kids V n) = Sm (Zn V) (kids V n) + (kids V n).length := Sm_len _ _
  have a4 : Sm (fun c => Zn V c + 1) (kids V n) = 2 * Sm (fun c => (gl V c : Int)) (kids V n) := by
    rw [← Sm_mul]
    exact Sm_congr (fun c _ => by unfold Zn; omega)
  have a5 : 2 ≤ (kids V n).length := by
    rw [kids_len]
    have := (t.sp hn ks).2 rfl
    unfold v_cc
    rw [if_neg (by omega)]
    exact this
  unfold Zn
  omega
theorem txt_len (t : Tree V d wn (fun _ => false)) : ∀ (e n : Nat), n < 23 → V 8 n ≠ 3 → ((txt V e n).length : Int) + 9 ≤ 40 * Zn V n := by
  intro e
  induction e with
  | zero =>
    intro n hn hu
    have := Zn_pos hn hu
    show ((0 : Nat) : Int) + 9 ≤ _
    omega
  | succ e ih =>
    intro n hn hu
    have dp := Zn_pos hn hu
    unfold txt
    by_cases z : ga (V 8) 23 (n : Int) = 2
    · rw [if_pos z]
      have h1 := tbl_len V n (v_tc V n)
      have h2 := v_tc_rg V n
      omega
    · rw [if_neg z]
      rw [ga_in hn] at z
      have ki := t.ki hn
      have ks : V 8 n ≤ 1 := by omega
      have kl : ∀ k, k ≤ v_cc V n → ((kds V (txt V e) n k).length : Int) ≤ 40 * Qn V n k := by
        intro k
        induction k with
        | zero =>
          intro _
          rw [Qn_0]
          exact Int.le_refl _
        | succ k ihk =>
          intro hk
          obtain ⟨c, h1, h2, h3, -, -⟩ := t.kid hn ks (k := k) (by omega)
          have q := Qn_s t hn ks (k := k) (by omega) h2
          have l1 := ihk (by omega)
          have l2 := ih c h1 (t.us h1 (by omega))
          have l3 := numl_len (oI (ga (V 11) 23 (v_ca V n k)))
          unfold kds
          rw [h2] at l3 ⊢
          simp only [List.length_append, List.length_cons, List.length_nil]
          omega
      have k1 := kl (v_cc V n) (Nat.le_refl _)
      have k2 := Qn_le t hn ks (v_cc V n)
      simp only [List.length_append, List.length_cons, List.length_nil]
      omega
theorem s_pkids (t : Tree V d wn (fun _ => false)) {e : Nat} {rc : Sg → Nat → Nat → Int32 → Int32 → Option Sg} (IH : ∀ (c : Nat) (σ1 : Sg) (W : List Int32), c < 23 → V 8 c ≠ 3 → e + dq V c = 64 → pv σ1 (1 + 5) = V → CB σ1 W → (W.length : Int) + 40 * Zn V c ≤ 50000 → ∃ σ', rc σ1 459 (1 + 5) (oI c) (nI (dq V c)) = some σ' ∧ Out σ1 σ' 460 461 ∧ CB σ' (W ++ txt V e c)) {n : Nat} (hn : n < 23) (ks : V 8 n ≤ 1) (he : e + 1 + dq V n = 64) {B : List Int32} (hB : (B.length : Int) + 40 * Zn V n ≤ 50001) : ∀ (j k fuel : Nat) (σ1 : Sg), k + j = v_cc V n → j < fuel → pv σ1 (1 + 5) = V → CB σ1 (B ++ kds V (txt V e) n k) → ∃ σ', fX7_putTree_55 459 (1 + 5) rc fuel σ1 (oI n) (nI (dq V n)) (oI (v_cc V n)) (nI k) = some σ' ∧ Out σ1 σ' 460 461 ∧ CB σ' (B ++ (kds V (txt V e) n (v_cc V n) ++ [41])) := by
  have c23 := v_cc_rg V n
  have tn : (oI (n : Int)).toInt = n := j_oI (by omega) (by omega)
  have kl : ∀ k, k ≤ v_cc V n → ((kds V (txt V e) n k).length : Int) ≤ 40 * Qn V n k := by
    intro k
    induction k with
    | zero =>
      intro _
      rw [Qn_0]
      exact Int.le_refl _
    | succ k ihk =>
      intro hk
      obtain ⟨c, h1, h2, h3, -, -⟩ := t.kid hn ks (k := k) (by omega)
      have q := Qn_s t hn ks (k := k) (by omega) h2
      have l1 := ihk (by omega)
      have l2 := txt_len t e c h1 (t.us h1 (by omega))
      have l3 := numl_len (oI (ga (V 11) 23 (v_ca V n k)))
      unfold kds
      rw [h2] at l3 ⊢
      simp only [List.length_append, List.length_cons, List.length_nil]
      omega
  intro j
  induction j with
  | zero =>
    intro k fuel σ1 e1 hf hv h
    match fuel, hf with
    | f + 1, _ =>
      have ek : k = v_cc V n := by omega
      have l1 := kl k (by omega)
      have l2 := Qn_le t hn ks k
      obtain ⟨σ', a1, a2, a3⟩ := h.app (by rw [List.length_append]; omega) 41
      refine ⟨σ', ?_, a2, ?_⟩
      · rw [fX7_putTree_55, if_pos (by rw [j_le, t_cc, j_nI (by omega)]; omega), a1, j_b]
      · rw [← ek, ← List.append_assoc]
        exact a3
  | succ j ih =>
    intro k fuel σ1 e1 hf hv h
    match fuel, hf with
    | f + 1, hf =>
      obtain ⟨c, h1, h2, h3, h4, -⟩ := t.kid hn ks (k := k) (by omega)
      have q := Qn_s t hn ks (k := k) (by omega) h2
      have ql := Qn_le t hn ks (k + 1)
      have l1 := kl k (by omega)
      have tk : (nI k).toInt = k := j_nI (by omega)
      have tc : (oI (c : Int)).toInt = c := j_oI (by omega) (by omega)
      have dc := t.dqc h1 h3
      have uc := t.us h1 (by omega : V 9 c ≠ -1)
      have zc := Zn_pos (V := V) h1 uc
      obtain ⟨w1, a1, a2, a3⟩ := h.app (by rw [List.length_append]; omega) (if k = 0 then 40 else 44)
      have v1 : pv w1 (1 + 5) = V := (pv6 a2).trans hv
      have L1 : ((B ++ kds V (txt V e) n k ++ [if k = 0 then (40 : Int32) else 44]).length : Int) = B.length + (kds V (txt V e) n k).length + 1 := by
        simp only [List.length_append, List.length_cons, List.length_nil]
        omega
      obtain ⟨w2, b1, b2, b3⟩ := s_number a3 (by omega) (oI (ga (V 11) 23 (c : Int)))
      have v2 : pv w2 (1 + 5) = V := (pv6 b2).trans v1
      have nl := numl_len (oI (ga (V 11) 23 (c : Int)))
      obtain ⟨w3, d1, d2, d3⟩ := b3.app (by rw [List.length_append]; omega) 58
      have v3 : pv w3 (1 + 5) = V := (pv6 d2).trans v2
      obtain ⟨w4, g1, g2, g3⟩ := IH c w3 _ h1 uc (by omega) v3 d3 (by
        have : ((B ++ kds V (txt V e) n k ++ [if k = 0 then (40 : Int32) else 44] ++ numl (oI (ga (V 11) 23 (c : Int))) ++ [58]).length : Int) = B.length + (kds V (txt V e) n k).length + 1 + (numl (oI (ga (V 11) 23 (c : Int)))).length + 1 := by
          simp only [List.length_append, List.length_cons, List.length_nil]
          omega
        rw [this]
        omega)
      have v4 : pv w4 (1 + 5) = V := (pv6 g2).trans v3
      have ek : B ++ kds V (txt V e) n (k + 1) = B ++ kds V (txt V e) n k ++ [if k = 0 then (40 : Int32) else 44] ++ numl (oI (ga (V 11) 23 (c : Int))) ++ [58] ++ txt V e c := by
        show B ++ (kds V (txt V e) n k ++ ([if k = 0 then (40 : Int32) else 44] ++ (numl (oI (ga (V 11) 23 (v_ca V n k))) ++ ([58] ++ txt V e (v_ca V n k))))) = _
        rw [h2]
        simp only [List.append_assoc]
      obtain ⟨σ', i1, i2, i3⟩ := ih (k + 1) f w4 (by omega) (by omega) v4 (by rw [ek]; exact g3)
      refine ⟨σ', ?_, (((a2.tr b2).tr d2).tr g2).tr i2, i3⟩
      have e87 : ∀ x : Int32, x = (if k = 0 then 40 else 44) → fX7_putTree_87 459 (1 + 5) rc (fX7_putTree_55 459 (1 + 5) rc f) σ1 (oI n) (nI (dq V n)) (oI (v_cc V n)) (nI k) (oI (c : Int)) x = some σ' := fun x hx => by
        unfold fX7_putTree_87
        rw [hx, a1, j_b, s_weightOf, j_b, v1, tc, b1, j_b, d1, j_b, j_s, ← dc, g1, j_b, j_s]
        exact i1
      rw [fX7_putTree_55, if_neg (by rw [j_le, t_cc, tk]; omega), s_childAt, j_b, hv, tn, tk, h2]
      by_cases z : k = 0
      · rw [if_pos (by rw [z]; rfl), e87 40 (by rw [if_pos z])]
      · rw [if_neg (by rw [j_eq, tk, jz0]; omega), e87 44 (by rw [if_neg z])]
theorem s_ptree (t : Tree V d wn (fun _ => false)) : ∀ (e n : Nat) (σ1 : Sg) (W : List Int32), n < 23 → V 8 n ≠ 3 → e + dq V n = 64 → pv σ1 (1 + 5) = V → CB σ1 W → (W.length : Int) + 40 * Zn V n ≤ 50000 → ∃ σ', fX7_putTree e σ1 459 (1 + 5) (oI n) (nI (dq V n)) = some σ' ∧ Out σ1 σ' 460 461 ∧ CB σ' (W ++ txt V e n) := by
  intro e
  induction e with
  | zero =>
    intro n σ1 W hn hu he
    have := (t.dqs hn hu).1
    omega
  | succ e ih =>
    intro n σ1 W hn hu he hv h hl
    have d22 := (t.dqs hn hu).1
    have dp := Zn_pos hn hu
    have tn : (oI (n : Int)).toInt = n := j_oI (by omega) (by omega)
    have i40 : (40 : Int32).toInt = 40 := rfl
    have ki := t.ki hn
    have kk : fX1_kindOf σ1 (1 + 5) (oI (n : Int)) = some (oI (V 8 n)) := by rw [s_kindOf, hv, tn, ga_in hn]
    have tk : (oI (V 8 n)).toInt = V 8 n := j_oI (by omega) (by omega)
    rw [fX7_putTree, gX7_putTree, if_pos (by rw [j_le, j_nI (by omega), i40]; omega), kk, j_b]
    unfold txt
    rw [ga_in hn]
    by_cases z : V 8 n = 2
    · obtain ⟨σ', a1, a2, a3⟩ := s_ptabs (oI (n : Int)) hv h (by omega)
      rw [tn] at a3
      rw [if_pos (by rw [z]; rfl), if_pos z, a1, j_b]
      exact ⟨σ', rfl, a2, a3⟩
    · have ks : V 8 n ≤ 1 := by omega
      have two : (2 : Int32).toInt = 2 := rfl
      obtain ⟨w1, a1, a2, a3⟩ := h.app (by omega) (if V 8 n = 0 then 72 else 86)
      have v1 : pv w1 (1 + 5) = V := (pv6 a2).trans hv
      have fu : FU = 6000 := rfl
      have c23 := v_cc_rg V n
      obtain ⟨σ', b1, b2, b3⟩ := s_pkids t ih hn ks he (B := W ++ [if V 8 n = 0 then 72 else 86]) (by
        rw [List.length_append]
        show ((W.length + 1 : Nat) : Int) + _ ≤ _
        omega) (v_cc V n) 0 FU w1 (by omega) (by omega) v1 (by
        show CB w1 (W ++ [if V 8 n = 0 then 72 else 86] ++ [])
        rw [List.append_nil]
        exact a3)
      have e42 : ∀ x : Int32, x = (if V 8 n = 0 then 72 else 86) → fX7_putTree_42 459 (1 + 5) (fX7_putTree e) σ1 (oI (n : Int)) (nI (dq V n)) x = some σ' := fun x hx => by
        unfold fX7_putTree_42
        rw [hx, a1, j_b, s_childCount, j_b, v1, tn]
        exact b1
      refine ⟨σ', ?_, a2.tr b2, by rw [if_neg z, ← List.append_assoc]; exact b3⟩
      rw [if_neg (by rw [j_eq, tk, two]; exact z), j_b]
      by_cases y : V 8 n = 0
      · rw [if_pos (by rw [y]; rfl), e42 72 (by rw [if_pos y])]
      · rw [if_neg (by rw [j_eq, tk, jz0]; exact y), e42 86 (by rw [if_neg y])]
end RB3

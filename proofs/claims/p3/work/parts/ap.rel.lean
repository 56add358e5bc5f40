/-! THE RELATION: checksum -/
section RAP
def mxs (f : Nat → Int32) : Nat → Int64 → Int64
  | 0, h => h
  | n + 1, h => (31 : Int64) * mxs f n h + (f n).toInt64
theorem mxs_cg {f g : Nat → Int32} : ∀ {n : Nat} {h : Int64}, (∀ i, i < n → f i = g i) → mxs f n h = mxs g n h
  | 0, _, _ => rfl
  | n + 1, h, e => by
    show (31 : Int64) * mxs f n h + (f n).toInt64 = (31 : Int64) * mxs g n h + (g n).toInt64
    rw [mxs_cg (fun i hi => e i (by omega)), e n (by omega)]
def mxP (S : ST) (P : VW) (k : Nat) (h : Int64) : Int64 := mxs (fun w => lyV P S k w) 4 (mxs (fun w => tlV S k (nI w)) 9 h)
def mxA (S : ST) (P : VW) : Nat → Int64 → Int64
  | 0, h => h
  | k + 1, h => if exB S k then mxP S P k (mxA S P k h) else mxA S P k h
def mxW (S : ST) (P : VW) : Nat → Int64 → Int64
  | 0, h => h
  | k + 1, h => if v_we (S_pl S) k then mxs (fun w => wtV P S k (nI w)) 8 (mxW S P k h) else mxW S P k h
def mxF (S : ST) (n : Nat) (h : Int64) : Int64 := mxs (fun i => oI (o_it (S_fo S) i)) n h
def mxT (S : ST) (h : Int64) : Int64 := mxs (fun s => if svB S s then 1 else 0) 3 h
theorem wj_n : ∀ w, w < 4 → wj (nI w) = w := by decide
/-! the class -/
variable {σ : Sg} {S : ST}
theorem s_mx6 (h : stv σ 1 = S) (hS : SI S) {p : Int32} {k : Nat} (hp : p.toInt = k) (hk : k < 12) (hx : exP S p = true) (a : Int64) : fX8_mixPaneN σ a p = some (mxP S (qv σ) k a) := by
  have fin : ∀ b : Int64, fX8_mixPaneN_36 σ FU p b 0 = some (mxs (fun w => lyV (qv σ) S k w) 4 b) := fun b => by
    refine lp (F := fun f (s : Int64 × Int32) => fX8_mixPaneN_36 σ f p s.1 s.2) (Q := fun o => o = some (mxs (fun w => lyV (qv σ) S k w) 4 b)) (fun i s => s = (mxs (fun w => lyV (qv σ) S k w) i b, nI i)) 4 ?_ ?_ 4 0 FU (b, 0) rfl (by decide) rfl
    · rintro f i _ hi rfl
      refine ⟨_, rfl, ?_⟩
      have ti : (nI i).toInt = i := j_nI (by omega)
      show fX8_mixPaneN_36 σ (f + 1) p (mxs (fun w => lyV (qv σ) S k w) i b) (nI i) = fX8_mixPaneN_36 σ f p (mxs (fun w => lyV (qv σ) S k w) (i + 1) b) (nI (i + 1))
      rw [fX8_mixPaneN_36, if_neg (by rw [j_lt, ti]; show ¬ (3 : Int) < i; omega), (s_rect h hS hp hk hx (w := nI i) (by omega)).2, j_b, wj_n i hi]
      unfold fX8_mix
      rw [j_b, j_s]
      rfl
    · rintro f _ rfl
      show fX8_mixPaneN_36 σ (f + 1) p (mxs (fun w => lyV (qv σ) S k w) 4 b) (nI 4) = _
      rw [fX8_mixPaneN_36, if_pos (by decide)]
  unfold fX8_mixPaneN
  refine lp (F := fun f (s : Int64 × Int32) => fX8_mixPaneN_6 σ f p s.1 s.2) (Q := fun o => o = some (mxP S (qv σ) k a)) (fun i s => s = (mxs (fun w => tlV S k (nI w)) i a, nI i)) 9 ?_ ?_ 9 0 FU (a, 0) rfl (by decide) rfl
  · rintro f i _ hi rfl
    refine ⟨_, rfl, ?_⟩
    have ti : (nI i).toInt = i := j_nI (by omega)
    show fX8_mixPaneN_6 σ (f + 1) p (mxs (fun w => tlV S k (nI w)) i a) (nI i) = fX8_mixPaneN_6 σ f p (mxs (fun w => tlV S k (nI w)) (i + 1) a) (nI (i + 1))
    rw [fX8_mixPaneN_6, if_neg (by rw [j_lt, ti]; show ¬ (8 : Int) < i; omega), (s_told h hS hp hk hx (w := nI i) (by omega)).2, j_b]
    unfold fX8_mix
    rw [j_b, j_s]
    rfl
  · rintro f _ rfl
    show fX8_mixPaneN_6 σ (f + 1) p (mxs (fun w => tlV S k (nI w)) 9 a) (nI 9) = _
    rw [fX8_mixPaneN_6, if_pos (by decide), fin]
    rfl
theorem s_mxw (h : stv σ 1 = S) (hS : SI S) {p : Int32} {k : Nat} (hp : p.toInt = k) (hk : k < 5) (hx : v_we (S_pl S) p.toInt = true) (a : Int64) : fX8_mixWindowN σ a p = some (mxs (fun w => wtV (qv σ) S k (nI w)) 8 a) := by
  unfold fX8_mixWindowN
  refine lp (F := fun f (s : Int64 × Int32) => fX8_mixWindowN_6 σ f p s.1 s.2) (Q := fun o => o = some (mxs (fun w => wtV (qv σ) S k (nI w)) 8 a)) (fun i s => s = (mxs (fun w => wtV (qv σ) S k (nI w)) i a, nI i)) 8 ?_ ?_ 8 0 FU (a, 0) rfl (by decide) rfl
  · rintro f i _ hi rfl
    refine ⟨_, rfl, ?_⟩
    have ti : (nI i).toInt = i := j_nI (by omega)
    show fX8_mixWindowN_6 σ (f + 1) p (mxs (fun w => wtV (qv σ) S k (nI w)) i a) (nI i) = fX8_mixWindowN_6 σ f p (mxs (fun w => wtV (qv σ) S k (nI w)) (i + 1) a) (nI (i + 1))
    rw [fX8_mixWindowN_6, if_neg (by rw [j_lt, ti]; show ¬ (7 : Int) < i; omega), (s_wtold h hS hp hk hx (w := nI i) (by omega)).2, j_b]
    unfold fX8_mix
    rw [j_b, j_s]
    rfl
  · rintro f _ rfl
    show fX8_mixWindowN_6 σ (f + 1) p (mxs (fun w => wtV (qv σ) S k (nI w)) 8 a) (nI 8) = _
    rw [fX8_mixWindowN_6, if_pos (by decide)]
def mxZ (S : ST) (P : VW) (n m : Int32) : Int64 := (31 : Int64) * ((31 : Int64) * mxT S (mxF S (S_fo S).1.toNat (mxW S P 5 (mxA S P 12 ((31 : Int64) * 18323 + (nI (S_ex S).toNat).toInt64)))) + n.toInt64) + m.toInt64
theorem s_checksum (h : stv σ 1 = S) (hS : SI S) : fX8_checksumN σ = some (mxZ S (qv σ) (σ.1 438 1) (σ.1 0 3)) := by
  have f4 : ∀ a, fX8_checksumN_128 σ FU a 0 = some ((31 : Int64) * ((31 : Int64) * mxT S a + (σ.1 438 1).toInt64) + (σ.1 0 3).toInt64) := fun a => by
    refine lp (F := fun f (s : Int64 × Int32) => fX8_checksumN_128 σ f s.1 s.2) (Q := fun o => o = some ((31 : Int64) * ((31 : Int64) * mxT S a + (σ.1 438 1).toInt64) + (σ.1 0 3).toInt64)) (fun i s => s = (mxs (fun s => if svB S s then 1 else 0) i a, nI i)) 3 ?_ ?_ 3 0 FU (a, 0) rfl (by decide) rfl
    · rintro f i _ hi rfl
      refine ⟨_, rfl, ?_⟩
      have ti : (nI i).toInt = i := j_nI (by omega)
      show fX8_checksumN_128 σ (f + 1) (mxs (fun s => if svB S s then 1 else 0) i a) (nI i) = fX8_checksumN_128 σ f (mxs (fun s => if svB S s then 1 else 0) (i + 1) a) (nI (i + 1))
      rw [fX8_checksumN_128, if_neg (n_ge 3 (m := 3) rfl hi (by decide)), s_isSaved (b := 1) (by rw [h]; exact hS.2.1) ti hi, j_b, h]
      have e : mxs (fun s => if svB S s = true then (1 : Int32) else 0) (i + 1) a = (31 : Int64) * mxs (fun s => if svB S s = true then (1 : Int32) else 0) i a + (if svB S i = true then (1 : Int32) else 0).toInt64 := rfl
      unfold fX8_checksumN_150 fX8_mix
      rw [j_b, j_b, j_s, e]
      cases svB S i <;> rfl
    · rintro f _ rfl
      show fX8_checksumN_128 σ (f + 1) (mxs (fun s => if svB S s then 1 else 0) 3 a) (nI 3) = _
      rw [fX8_checksumN_128, if_pos (n_le 3 (m := 3) rfl (by decide))]
      unfold fX5_length fX8_mix
      rw [j_b, j_b, j_b]
      rfl
  have hO := hS.2.2.2.2.2.1
  have ok := hO.ok (by decide)
  have f3 : ∀ a, fX8_checksumN_90 σ FU a 0 = fX8_checksumN_128 σ FU (mxF S (S_fo S).1.toNat a) 0 := fun a => by
    have sz : odv σ (1 + 3) = S_fo S := by rw [← h]; rfl
    refine lp (F := fun f (s : Int64 × Int32) => fX8_checksumN_90 σ f s.1 s.2) (Q := fun o => o = fX8_checksumN_128 σ FU (mxF S (S_fo S).1.toNat a) 0) (fun i s => s = (mxF S i a, nI i)) (S_fo S).1.toNat ?_ ?_ (S_fo S).1.toNat 0 FU (a, 0) (by omega) (by have := ok.2; show _ < 6000; omega) rfl
    · rintro f i _ hi rfl
      refine ⟨_, rfl, ?_⟩
      have o2 := ok.2
      have ti : (nI i).toInt = i := j_nI (by omega)
      show fX8_checksumN_90 σ (f + 1) (mxF S i a) (nI i) = fX8_checksumN_90 σ f (mxF S (i + 1) a) (nI (i + 1))
      rw [fX8_checksumN_90, s_size, j_b, sz, if_neg (by rw [j_le, j_oI (by have := ok.1; omega) (by omega), ti]; omega), s_item, j_b, sz, ti]
      unfold fX8_mix
      rw [j_b, j_s]
      rfl
    · rintro f _ rfl
      have o1 := ok.1
      have o2 := ok.2
      show fX8_checksumN_90 σ (f + 1) (mxF S (S_fo S).1.toNat a) (nI (S_fo S).1.toNat) = _
      rw [fX8_checksumN_90, s_size, j_b, sz, if_pos (by rw [j_le, j_oI (by omega) (by omega), j_nI (by omega)]; omega)]
  have f2 : ∀ a, fX8_checksumN_52 σ FU a 0 = fX8_checksumN_90 σ FU (mxW S (qv σ) 5 a) 0 := fun a => by
    refine lp (F := fun f (s : Int64 × Int32) => fX8_checksumN_52 σ f s.1 s.2) (Q := fun o => o = fX8_checksumN_90 σ FU (mxW S (qv σ) 5 a) 0) (fun i s => s = (mxW S (qv σ) i a, nI i)) 5 ?_ ?_ 5 0 FU (a, 0) rfl (by decide) rfl
    · rintro f i _ hi rfl
      refine ⟨_, rfl, ?_⟩
      have ti : (nI i).toInt = i := j_nI (by omega)
      have e : mxW S (qv σ) (i + 1) a = if v_we (S_pl S) i then mxs (fun w => wtV (qv σ) S i (nI w)) 8 (mxW S (qv σ) i a) else mxW S (qv σ) i a := rfl
      show fX8_checksumN_52 σ (f + 1) (mxW S (qv σ) i a) (nI i) = fX8_checksumN_52 σ f (mxW S (qv σ) (i + 1) a) (nI (i + 1))
      rw [fX8_checksumN_52, if_neg (n_ge 5 (m := 5) rfl hi (by decide)), s_windowExists, j_b, S_pv h, ti, e]
      unfold fX8_checksumN_81
      rw [j_s]
      cases q : v_we (S_pl S) i
      · rfl
      · rw [if_pos rfl, s_mxw h hS ti hi (by rw [ti]; exact q), j_b]
        rfl
    · rintro f _ rfl
      show fX8_checksumN_52 σ (f + 1) (mxW S (qv σ) 5 a) (nI 5) = _
      rw [fX8_checksumN_52, if_pos (n_le 5 (m := 5) rfl (by decide))]
  have f1 : ∀ a, fX8_checksumN_16 σ FU a 0 = fX8_checksumN_52 σ FU (mxA S (qv σ) 12 a) 0 := fun a => by
    refine lp (F := fun f (s : Int64 × Int32) => fX8_checksumN_16 σ f s.1 s.2) (Q := fun o => o = fX8_checksumN_52 σ FU (mxA S (qv σ) 12 a) 0) (fun i s => s = (mxA S (qv σ) i a, nI i)) 12 ?_ ?_ 12 0 FU (a, 0) rfl (by decide) rfl
    · rintro f i _ hi rfl
      refine ⟨_, rfl, ?_⟩
      have ti : (nI i).toInt = i := j_nI (by omega)
      have ex : exP S (nI i) = exB S i := by
        unfold exP
        rw [ti, decide_eq_true (by omega), Int.toNat_natCast]
        rfl
      have e : mxA S (qv σ) (i + 1) a = if exB S i then mxP S (qv σ) i (mxA S (qv σ) i a) else mxA S (qv σ) i a := rfl
      show fX8_checksumN_16 σ (f + 1) (mxA S (qv σ) i a) (nI i) = fX8_checksumN_16 σ f (mxA S (qv σ) (i + 1) a) (nI (i + 1))
      rw [fX8_checksumN_16, if_neg (n_ge 12 (m := 12) rfl hi (by decide)), s_exists (b := 1) (by rw [h]; exact hS.1), j_b, h, e]
      show (if exP S (nI i) = true then _ else _) = _
      unfold fX8_checksumN_43
      rw [j_s, ex]
      cases q : exB S i
      · rfl
      · rw [if_pos rfl, s_mx6 h hS ti hi (by rw [ex]; exact q), j_b]
        rfl
    · rintro f _ rfl
      show fX8_checksumN_16 σ (f + 1) (mxA S (qv σ) 12 a) (nI 12) = _
      rw [fX8_checksumN_16, if_pos (n_le 12 (m := 12) rfl (by decide))]
  unfold fX8_checksumN fX8_mix
  rw [j_b, f1, f2, f3, f4, ex_get (b := 1) (by rw [h]; exact hS.1), h]
  rfl
/-! the reference -/
def Hs (s x : Sg) (a : Int64) : Prop := x.1 = s.1 ∧ x.2 476 = s.2 476 ∧ x.2 462 26 = a
theorem m_mix {s x : Sg} {a : Int64} (h : Hs s x a) (v : Int32) : ∃ x', fX9_mix x 462 v.toInt64 = some x' ∧ Hs s x' ((31 : Int64) * a + v.toInt64) := by
  unfold fX9_mix
  rw [j_nm]
  refine ⟨_, rfl, h.1, ?_, ?_⟩
  · rw [← h.2.1]
    rfl
  · rw [h.2.2]
    rfl
theorem m_mxs {s : Sg} {F : Nat → Sg → Int32 → Option (Int64 × Sg)} {N : Nat} {g : Nat → Int32} {a : Int64} {Q : Option (Int64 × Sg) → Prop} (hN : N < 100) (hs : ∀ n i x, i < N → (∃ b, Hs s x b) → F (n + 1) x (nI i) = (fX9_mix x 462 (g i).toInt64).bind fun x' => F n x' (nI (i + 1))) (he : ∀ n x, Hs s x (mxs g N a) → Q (F (n + 1) x (nI N))) {x : Sg} (hx : Hs s x a) : Q (F FU x 0) := by
  refine lp (F := fun f (y : Sg × Int32) => F f y.1 y.2) (Q := Q) (fun i y => y.2 = nI i ∧ Hs s y.1 (mxs g i a)) N ?_ ?_ N 0 FU (x, 0) (by omega) (by show N < 6000; omega) ⟨rfl, hx⟩
  · rintro f i ⟨y, l⟩ hi ⟨rfl, hy⟩
    simp only at hy
    obtain ⟨y', b, hy'⟩ := m_mix hy (g i)
    exact ⟨(y', nI (i + 1)), ⟨rfl, hy'⟩, by
      show F (f + 1) y (nI i) = F f y' (nI (i + 1))
      rw [hs f i y hi ⟨_, hy⟩, b, j_b]⟩
  · rintro f ⟨y, l⟩ ⟨rfl, hy⟩
    exact he f y hy
theorem m_cks {s x : Sg} {l : List ST} (hS : SI S) (ms : MR s S l) (hL : Lay (S_pl S) (S_mw S) (S_mh S) (mq s)) {a : Int64} (hx : Hs s x a) : ∃ x', fX9_checksum_27 462 FU x 0 = some ((31 : Int64) * ((31 : Int64) * mxT S (mxF S (S_fo S).1.toNat (mxW S (mq s) 5 (mxA S (mq s) 12 a))) + (s.1 462 5).toInt64) + (s.1 462 2).toInt64, x') ∧ x'.1 = s.1 ∧ x'.2 476 = s.2 476 := by
  have mvx : ∀ {y : Sg} {b : Int64}, Hs s y b → SM (mv (y.1 463)) S := fun h => by rw [h.1]; exact ms.2
  have mqx : ∀ {y : Sg} {b : Int64}, Hs s y b → mq y = mq s := fun h => by
    funext j n
    unfold mq
    rw [h.1]
  have hO := hS.2.2.2.2.2.1
  have ok := hO.ok (by decide)
  have o1 := ok.1
  have o2 := ok.2
  -- the slots and the end
  have f4 : ∀ (y : Sg) (b : Int64), Hs s y b → ∃ x', fX9_checksum_187 462 FU y 0 = some ((31 : Int64) * ((31 : Int64) * mxT S b + (s.1 462 5).toInt64) + (s.1 462 2).toInt64, x') ∧ x'.1 = s.1 ∧ x'.2 476 = s.2 476 := fun y b hy => by
    refine m_mxs (F := fun f y i => fX9_checksum_187 462 f y i) (N := 3) (g := fun s => if svB S s then 1 else 0) (a := b) (Q := fun o => ∃ x', o = some ((31 : Int64) * ((31 : Int64) * mxT S b + (s.1 462 5).toInt64) + (s.1 462 2).toInt64, x') ∧ x'.1 = s.1 ∧ x'.2 476 = s.2 476) (by omega) (fun n i x hi hx => ?_) (fun n x hx => ?_) hy
    · obtain ⟨b', hx⟩ := hx
      have ea : 264 + (219 * nI i) = nI (264 + 219 * i) := by
        rw [show (219 : Int32) * nI i = nI (219 * i) from (Int32.ofNat_mul 219 i).symm, show (264 : Int32) = nI 264 from rfl, j_a]
      have sl := ((mvx hx).2.2.2 i hi).1
      have mvs : mv (x.1 463) (22 + i) 0 = (x.1 463 (264 + 219 * i)).toInt := by
        have : i = 0 ∨ i = 1 ∨ i = 2 := by omega
        rcases this with rfl | rfl | rfl
        · rw [mv_in (by decide)]; rfl
        · rw [mv_in (by decide)]; rfl
        · rw [mv_in (by decide)]; rfl
      have cv : x.1 (462 + 1) (264 + 219 * i) = if svB S i = true then 1 else 0 := by
        refine j_eq.mpr ?_
        show (x.1 463 (264 + 219 * i)).toInt = _
        rw [← mvs, sl]
        cases svB S i <;> rfl
      rw [fX9_checksum_187, if_neg (n_ge 3 (m := 3) rfl hi (by decide)), ea, if_pos (j_ckn (by omega) (by decide)), j_cl _ (by omega), cv, j_s]
    · obtain ⟨x1, b1, h1⟩ := m_mix hx (s.1 462 5)
      obtain ⟨x2, b2, h2⟩ := m_mix h1 (s.1 462 2)
      rw [fX9_checksum_187, if_pos (n_le 3 (m := 3) rfl (by decide)), hx.1, b1, j_b, h1.1, b2, j_b, h2.2.2]
      exact ⟨x2, rfl, h2.1, h2.2.1⟩
  have f3 : ∀ (y : Sg) (b : Int64), Hs s y b → ∃ y', fX9_checksum_152 462 FU y 0 = fX9_checksum_187 462 FU y' 0 ∧ Hs s y' (mxF S (S_fo S).1.toNat b) := fun y b hy => by
    have ct : ∀ {x : Sg} {b : Int64}, Hs s x b → (x.1 463 251).toInt = (S_fo S).1 := fun hx => by
      rw [mo_ct (j := 20) (c := 251) (cap := 12) (Or.inr ⟨rfl, rfl, rfl⟩), (mvx hx).2.2.1.1]
    have c251 : (251 : Int32).toNatClampNeg = 251 := by decide
    refine m_mxs (F := fun f y i => fX9_checksum_152 462 f y i) (N := (S_fo S).1.toNat) (g := fun i => oI (o_it (S_fo S) i)) (Q := fun o => ∃ y', o = fX9_checksum_187 462 FU y' 0 ∧ Hs s y' (mxF S (S_fo S).1.toNat b)) (by omega) (fun n i x hi hx => ?_) (fun n x hx => ?_) hy
    · obtain ⟨b', hx⟩ := hx
      have ti : (nI i).toInt = i := j_nI (by omega)
      have ct := ct hx
      have it := mo_it (σ := x) (j := 20) (c := 251) (cap := 12) (Or.inr ⟨rfl, rfl, rfl⟩) (i := i) (by omega)
      have oe := (mvx hx).2.2.1
      rw [oe.2 i (by rw [oe.1]; omega)] at it
      rw [fX9_checksum_152, if_pos (show ck 251 921 from by decide), c251]
      show (if x.1 463 251 ≤ nI i then _ else _) = _
      rw [if_neg (by rw [j_le, ct, ti]; omega), show (252 : Int32) = nI 252 from rfl, j_a, if_pos (j_ckn (by omega) (by decide)), j_cl _ (by omega), j_s]
      have ev : x.1 (462 + 1) (252 + i) = oI (o_it (S_fo S) i) := by
        show x.1 463 (251 + 1 + i) = _
        unfold o_it
        rw [if_neg (by omega), ga_in (by omega), ← it, j_oIt]
      rw [ev]
    · have ct := ct hx
      show ∃ y', fX9_checksum_152 462 (n + 1) x (nI (S_fo S).1.toNat) = _ ∧ _
      rw [fX9_checksum_152, if_pos (show ck 251 921 from by decide), c251]
      show ∃ y', (if x.1 463 251 ≤ nI (S_fo S).1.toNat then _ else _) = _ ∧ _
      rw [if_pos (by rw [j_le, ct, j_nI (by omega)]; omega)]
      exact ⟨x, rfl, hx⟩
  -- the windows
  have f2 : ∀ (y : Sg) (b : Int64), Hs s y b → ∃ y', fX9_checksum_106 462 FU y 0 = fX9_checksum_152 462 FU y' 0 ∧ Hs s y' (mxW S (mq s) 5 b) := fun y b hy => by
    refine lp (F := fun f (z : Sg × Int32) => fX9_checksum_106 462 f z.1 z.2) (Q := fun o => ∃ y', o = fX9_checksum_152 462 FU y' 0 ∧ Hs s y' (mxW S (mq s) 5 b)) (fun i z => z.2 = nI i ∧ Hs s z.1 (mxW S (mq s) i b)) 5 ?_ ?_ 5 0 FU (y, 0) rfl (by decide) ⟨rfl, hy⟩
    · rintro f i ⟨z, l⟩ hi ⟨rfl, hz⟩
      simp only at hz
      have ti : (nI i).toInt = i := j_nI (by omega)
      show ∃ z' : Sg × Int32, _ ∧ fX9_checksum_106 462 (f + 1) z (nI i) = _
      rw [fX9_checksum_106, if_neg (n_ge 5 (m := 5) rfl hi (by decide))]
      have e : mxW S (mq s) (i + 1) b = if v_we (S_pl S) i then mxs (fun w => wtV (mq s) S i (nI w)) 8 (mxW S (mq s) i b) else mxW S (mq s) i b := rfl
      cases q : v_we (S_pl S) i
      · rw [q, if_neg Bool.false_ne_true] at e
        refine ⟨(z, nI (i + 1)), ⟨rfl, by rw [e]; exact hz⟩, ?_⟩
        show fX9_checksum_113 462 (fX9_checksum_106 462 f) (5999 + 1) z (nI i) 0 = _
        rw [fX9_checksum_113, if_neg (by decide), m_isW (mvx hz).2.1, j_b, ti, q, if_neg Bool.false_ne_true]
        unfold fX9_checksum_144
        rw [j_s]
      · rw [q, if_pos rfl] at e
        refine m_mxs (F := fun n x w => fX9_checksum_113 462 (fX9_checksum_106 462 f) n x (nI i) w) (N := 8) (g := fun w => wtV (mq s) S i (nI w)) (Q := fun o => ∃ z' : Sg × Int32, (z'.2 = nI (i + 1) ∧ Hs s z'.1 (mxW S (mq s) (i + 1) b)) ∧ o = fX9_checksum_106 462 f z'.1 z'.2) (by omega) (fun n w x hw hx => ?_) (fun n x hx => ?_) hz
        · obtain ⟨b', hx⟩ := hx
          have tw : (nI w).toInt = w := j_nI (by omega)
          rw [fX9_checksum_113, if_neg (n_ge 8 (m := 8) rfl hw (by decide)), m_isW (mvx hx).2.1, j_b, ti, q, if_pos rfl, m_wtold (mvx hx) hS (by rw [mqx hx]; exact hL) ti hi (by rw [ti]; exact q) (w := nI w) (by omega), j_b, mqx hx, j_s]
        · rw [fX9_checksum_113, if_pos (n_le 8 (m := 8) rfl (by decide))]
          unfold fX9_checksum_144
          rw [j_s]
          exact ⟨(x, nI (i + 1)), ⟨rfl, by rw [e]; exact hx⟩, rfl⟩
    · rintro f ⟨z, l⟩ ⟨rfl, hz⟩
      simp only at hz
      show ∃ y', fX9_checksum_106 462 (f + 1) z (nI 5) = _ ∧ _
      rw [fX9_checksum_106, if_pos (n_le 5 (m := 5) rfl (by decide))]
      exact ⟨z, rfl, hz⟩
  -- the panes
  have f1 : ∀ (y : Sg) (b : Int64), Hs s y b → ∃ y', fX9_checksum_27 462 FU y 0 = fX9_checksum_106 462 FU y' 0 ∧ Hs s y' (mxA S (mq s) 12 b) := fun y b hy => by
    refine lp (F := fun f (z : Sg × Int32) => fX9_checksum_27 462 f z.1 z.2) (Q := fun o => ∃ y', o = fX9_checksum_106 462 FU y' 0 ∧ Hs s y' (mxA S (mq s) 12 b)) (fun i z => z.2 = nI i ∧ Hs s z.1 (mxA S (mq s) i b)) 12 ?_ ?_ 12 0 FU (y, 0) rfl (by decide) ⟨rfl, hy⟩
    · rintro f i ⟨z, l⟩ hi ⟨rfl, hz⟩
      simp only at hz
      have ti : (nI i).toInt = i := j_nI (by omega)
      have ex : exP S (nI i) = exB S i := by
        unfold exP
        rw [ti, decide_eq_true (by omega), Int.toNat_natCast]
        rfl
      show ∃ z' : Sg × Int32, _ ∧ fX9_checksum_27 462 (f + 1) z (nI i) = _
      rw [fX9_checksum_27, if_neg (n_ge 12 (m := 12) rfl hi (by decide))]
      have e : mxA S (mq s) (i + 1) b = if exB S i then mxP S (mq s) i (mxA S (mq s) i b) else mxA S (mq s) i b := rfl
      cases q : exB S i
      · rw [q, if_neg Bool.false_ne_true] at e
        refine ⟨(z, nI (i + 1)), ⟨rfl, by rw [e]; exact hz⟩, ?_⟩
        show fX9_checksum_35 462 (fX9_checksum_27 462 f) (5999 + 1) z (nI i) 0 = _
        rw [fX9_checksum_35, if_neg (by decide), m_isP (mvx hz), j_b, ex, q, if_neg Bool.false_ne_true]
        unfold fX9_checksum_66
        show fX9_checksum_68 462 (fX9_checksum_27 462 f) (5999 + 1) z (nI i) 0 = _
        rw [fX9_checksum_68, if_neg (by decide), m_isP (mvx hz), j_b, ex, q, if_neg Bool.false_ne_true]
        unfold fX9_checksum_98
        rw [j_s]
      · rw [q, if_pos rfl] at e
        have xq : exP S (nI i) = true := by rw [ex]; exact q
        refine m_mxs (F := fun n x w => fX9_checksum_35 462 (fX9_checksum_27 462 f) n x (nI i) w) (N := 9) (g := fun w => tlV S i (nI w)) (Q := fun o => ∃ z' : Sg × Int32, (z'.2 = nI (i + 1) ∧ Hs s z'.1 (mxA S (mq s) (i + 1) b)) ∧ o = fX9_checksum_27 462 f z'.1 z'.2) (by omega) (fun n w x hw hx => ?_) (fun n x hx => ?_) hz
        · obtain ⟨b', hx⟩ := hx
          have tw : (nI w).toInt = w := j_nI (by omega)
          rw [fX9_checksum_35, if_neg (n_ge 9 (m := 9) rfl hw (by decide)), m_isP (mvx hx), j_b, xq, if_pos rfl, m_told (mvx hx) hS ti hi xq (w := nI w) (by omega), j_b, j_s]
        · rw [fX9_checksum_35, if_pos (n_le 9 (m := 9) rfl (by decide))]
          unfold fX9_checksum_66
          refine m_mxs (F := fun n x w => fX9_checksum_68 462 (fX9_checksum_27 462 f) n x (nI i) w) (N := 4) (g := fun w => lyV (mq s) S i w) (Q := fun o => ∃ z' : Sg × Int32, (z'.2 = nI (i + 1) ∧ Hs s z'.1 (mxA S (mq s) (i + 1) b)) ∧ o = fX9_checksum_27 462 f z'.1 z'.2) (by omega) (fun n w x hw hx => ?_) (fun n x hx => ?_) hx
          · obtain ⟨b', hx⟩ := hx
            have tw : (nI w).toInt = w := j_nI (by omega)
            rw [fX9_checksum_68, if_neg (n_ge 4 (m := 4) rfl hw (by decide)), m_isP (mvx hx), j_b, xq, if_pos rfl, m_corner (mvx hx) hS (by rw [mqx hx]; exact hL) ti hi (w := nI w) (by omega), j_b, mqx hx, wj_n w hw, j_s]
          · rw [fX9_checksum_68, if_pos (n_le 4 (m := 4) rfl (by decide))]
            unfold fX9_checksum_98
            rw [j_s]
            exact ⟨(x, nI (i + 1)), ⟨rfl, by rw [e]; exact hx⟩, rfl⟩
    · rintro f ⟨z, l⟩ ⟨rfl, hz⟩
      simp only at hz
      show ∃ y', fX9_checksum_27 462 (f + 1) z (nI 12) = _ ∧ _
      rw [fX9_checksum_27, if_pos (n_le 12 (m := 12) rfl (by decide))]
      exact ⟨z, rfl, hz⟩
  obtain ⟨y1, e1, h1⟩ := f1 x a hx
  obtain ⟨y2, e2, h2⟩ := f2 y1 _ h1
  obtain ⟨y3, e3, h3⟩ := f3 y2 _ h2
  obtain ⟨y4, e4, h4⟩ := f4 y3 _ h3
  exact ⟨y4, by rw [e1, e2, e3, e4], h4⟩
def PK (F : Option Int64) (G : Option (Int64 × Sg)) : Prop := ∃ v σ2, F = some v ∧ G = some (v, σ2) ∧ RR σ2
theorem mxA_eq {P Q : VW} (hS : SI S) (hP : Lay (S_pl S) (S_mw S) (S_mh S) P) (hQ : Lay (S_pl S) (S_mw S) (S_mh S) Q) (a : Int64) : ∀ n, n ≤ 12 → mxA S P n a = mxA S Q n a
  | 0, _ => rfl
  | n + 1, hn => by
    show (if exB S n then mxP S P n (mxA S P n a) else mxA S P n a) = (if exB S n then mxP S Q n (mxA S Q n a) else mxA S Q n a)
    rw [mxA_eq hS hP hQ a n (by omega)]
    unfold mxP
    rw [mxs_cg (f := fun w => lyV P S n w) (g := fun w => lyV Q S n w) (fun i hi => ly_eq hS hP hQ (by omega) (by omega))]
theorem mxW_eq {P Q : VW} (hS : SI S) (hP : Lay (S_pl S) (S_mw S) (S_mh S) P) (hQ : Lay (S_pl S) (S_mw S) (S_mh S) Q) (a : Int64) : ∀ n, n ≤ 5 → mxW S P n a = mxW S Q n a
  | 0, _ => rfl
  | n + 1, hn => by
    show (if v_we (S_pl S) n then mxs (fun w => wtV P S n (nI w)) 8 (mxW S P n a) else mxW S P n a) = (if v_we (S_pl S) n then mxs (fun w => wtV Q S n (nI w)) 8 (mxW S Q n a) else mxW S Q n a)
    rw [mxW_eq hS hP hQ a n (by omega), mxs_cg (f := fun w => wtV P S n (nI w)) (g := fun w => wtV Q S n (nI w)) (fun i hi => wt_eq hS hP hQ (by omega) (nI i))]
theorem c_checksum (h : RR σ) : PK (fX8_checksumN σ) (fX9_checksum σ 462) := by
  obtain ⟨S, l, c, m, tx⟩ := h
  have h1 := c.1
  have hS := c.2.2.1
  obtain ⟨n, n120, t1, t2, t3⟩ := id tx
  have hn : σ.1 0 3 = nI l.length := by
    obtain ⟨k, -, -, -, e, -⟩ := c.2.1
    exact e
  obtain ⟨s1, hs1⟩ : ∃ s1 : Sg, s1 = sul (su σ 462 3 0) 462 26 18323 := ⟨_, rfl⟩
  have s11 : s1.1 = (su σ 462 3 0).1 := by rw [hs1]; rfl
  have ms1 : MR s1 S l := (m.s3 (k := 0)).c (by rw [s11]) (by rw [s11]) (by rw [s11])
  obtain ⟨s4, b4, g4, m4, x4, L4⟩ := m_ly ms1 hS
  have v26 : s4.2 462 26 = 18323 := by
    obtain ⟨d, wn, hI⟩ := hS.2.2.2.2.1
    obtain ⟨s4', b4', f4', -⟩ := m_lays (σ := s1) (mw := S_mw S) (mh := S_mh S) ms1.2.2.1 hI.1 hI.2.2.2 (fun p hp z => (ms1.2.1 p hp).2 (hS.2.2.2.1 p hp z)) (fun p hp => (hS.2.2.1 p hp).1) (fun p hp => (hS.2.2.1 p hp).2.1)
    have : s4' = s4 := by
      rw [b4] at b4'
      exact (Option.some.inj b4').symm
    rw [← this, f4'.1, hs1]
    rfl
  obtain ⟨x5, b5, h5⟩ := m_mix (s := s4) (x := s4) (a := 18323) ⟨rfl, rfl, v26⟩ (nI (S_ex S).toNat)
  obtain ⟨x6, b6, e6, k6⟩ := m_cks hS m4 L4 h5
  have f5 : s4.1 462 5 = nI n := by rw [g4.2.2.1, s11, su_at, if_neg (by omega)]; exact t2
  have f2 : s4.1 462 2 = nI l.length := m4.1.2.1
  refine ⟨_, x6, s_checksum h1 hS, ?_, RR.mk9 c tx (Or.inr ⟨x6.1 462 3, ?_⟩) (m4.c (by rw [e6]) (by rw [e6]) (by rw [e6]))⟩
  · unfold fX9_checksum
    rw [j_nm, j_nm]
    rw [← hs1, b4, j_b, m_paneSet m4.2 hS.1, j_b, b5, j_b, b6]
    unfold mxZ
    rw [t1, hn, f5, f2, mxA_eq hS c.2.2.2.2.1 L4 _ 12 (by omega), mxW_eq hS c.2.2.2.2.1 L4 _ 5 (by omega)]
  · refine ⟨fun x hx => by rw [e6, g4.1 x hx, s11, su_ne (by omega)], by rw [e6, g4.2.1, s11, su_ne (by omega)], by rw [e6, g4.2.2.1, s11, su_at, if_neg (by omega)], ?_, rfl⟩
    rw [k6, g4.2.2.2.1, hs1]
    rfl
end RAP

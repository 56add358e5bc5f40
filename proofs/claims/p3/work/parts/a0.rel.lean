/-! THE RELATION: class and reference, all of it -/
section RA0
def exP (S : ST) (p : Int32) : Bool := decide (0 ≤ p.toInt ∧ p.toInt < 12) && exB S p.toInt.toNat
def SI (S : ST) : Prop := (0 ≤ S_ex S ∧ S_ex S < 4096) ∧ (0 ≤ S_sv S ∧ S_sv S < 8) ∧ (∀ p, p < 12 → (0 ≤ S_mw S p ∧ S_mw S p ≤ 40) ∧ (0 ≤ S_mh S p ∧ S_mh S p ≤ 40) ∧ (exB S p = true → 1 ≤ S_mw S p)) ∧ (∀ p, p < 12 → S_pl S 13 p ≠ -1 → exB S p = true) ∧ (∃ d wn, Inv (S_pl S) d wn) ∧ LO (S_fo S) 12 (plc (S_pl S)) ∧ ∀ s, s < 3 → svB S s = true → ∃ d wn, Inv (S_sl S s) d wn
def PL (σ : Sg) (S : ST) : Prop := Lay (S_pl S) (S_mw S) (S_mh S) (qv σ) ∧ ∀ n, n < 23 → S_pl S 8 n = 3 → qv σ 1 n = 0
def CR (σ : Sg) (S : ST) (l : List ST) : Prop := stv σ 1 = S ∧ Ch σ l ∧ SI S ∧ (∀ T ∈ l, SI T) ∧ PL σ S
def MR (σ : Sg) (S : ST) (l : List ST) : Prop := Mh σ l ∧ SM (mv (σ.1 463)) S
def TX (σ : Sg) : Prop := ∃ n : Nat, n ≤ 120 ∧ σ.1 438 1 = nI n ∧ σ.1 462 5 = nI n ∧ ∀ i, i < n → σ.1 439 i = σ.1 465 i ∧ 32 ≤ (σ.1 439 i).toInt ∧ (σ.1 439 i).toInt ≤ 126
def RR (σ : Sg) : Prop := ∃ S l, CR σ S l ∧ MR σ S l ∧ TX σ
theorem inr_j {j i : Nat} (h : inr j i = true) : 1 ≤ j ∧ j ≤ 15 := by
  refine Classical.byContradiction (fun z => ?_)
  rw [inr_hi i (by omega)] at h
  cases h
theorem pv_c {σ σ' : Sg} {b : Nat} (e : ∀ j, 1 ≤ j → j ≤ 15 → σ'.1 (b + j) = σ.1 (b + j)) : pv σ' b = pv σ b := by
  funext j i
  unfold pv
  by_cases q : inr j i = true
  · have := inr_j q
    rw [if_pos q, if_pos q, e j this.1 this.2]
  · rw [if_neg q, if_neg q]
theorem odv_c {σ σ' : Sg} {c : Nat} (e0 : σ'.1 c = σ.1 c) (e1 : σ'.1 (c + 1) = σ.1 (c + 1)) : odv σ' c = odv σ c := by
  unfold odv
  rw [e0, e1]
theorem stv_c {σ σ' : Sg} {b : Nat} (e : ∀ c, b ≤ c → c ≤ b + 69 → σ'.1 c = σ.1 c) : stv σ' b = stv σ b := by
  refine stv_of (by rw [e b (by omega) (by omega)]) (by rw [e b (by omega) (by omega)]) (fun i _ => by rw [e (b + 1) (by omega) (by omega)]) (fun i _ => by rw [e (b + 2) (by omega) (by omega)]) (odv_c (e _ (by omega) (by omega)) (e _ (by omega) (by omega))) (pv_c (fun j h1 h2 => e _ (by omega) (by omega))) (fun s hs => pv_c (fun j h1 h2 => e _ (by unfold slo; omega) (by unfold slo; omega)))
theorem Ch.c {σ σ' : Sg} {l : List ST} (h : Ch σ l) (e0 : σ'.1 0 = σ.1 0) (e : ∀ c, 72 ≤ c → c ≤ 421 → σ'.1 c = σ.1 c) : Ch σ' l := by
  obtain ⟨k, h1, h2, h3, h4, h5⟩ := h
  refine ⟨k, h1, by rw [e0]; exact h2, h3, by rw [e0]; exact h4, fun j S g => ?_⟩
  have := rb_lo k j
  rw [stv_c (fun c a b => e c (by omega) (by omega))]
  exact h5 j S g
theorem qv_c {σ σ' : Sg} (e : ∀ c, 423 ≤ c → c ≤ 429 → σ'.1 c = σ.1 c) : qv σ' = qv σ := by
  funext j i
  unfold qv
  by_cases q : 1 ≤ j ∧ j ≤ 7 ∧ i < 23
  · rw [if_pos q, if_pos q, e _ (by omega) (by omega)]
  · rw [if_neg q, if_neg q]
theorem PL.c {σ σ' : Sg} {S : ST} (h : PL σ S) (e : ∀ c, 423 ≤ c → c ≤ 429 → σ'.1 c = σ.1 c) : PL σ' S := by
  unfold PL
  rw [qv_c e]
  exact h
theorem CR.c {σ σ' : Sg} {S : ST} {l : List ST} (h : CR σ S l) (e : ∀ c, c < 438 → σ'.1 c = σ.1 c) : CR σ' S l := by
  obtain ⟨h1, h2, h3, h4, h5⟩ := h
  exact ⟨(stv_c (fun c a b => e c (by omega))).trans h1, h2.c (e 0 (by omega)) (fun c a b => e c (by omega)), h3, h4, h5.c (fun c a b => e c (by omega))⟩
theorem Mh.c {σ σ' : Sg} {l : List ST} (h : Mh σ l) (e2 : σ'.1 462 2 = σ.1 462 2) (e4 : σ'.1 464 = σ.1 464) : Mh σ' l := by
  obtain ⟨h1, h2, h3⟩ := h
  refine ⟨h1, by rw [e2]; exact h2, fun k S g => ?_⟩
  have : pr σ' k = pr σ k := by
    funext i
    unfold pr
    rw [e4]
  rw [this]
  exact h3 k S g
theorem MR.c {σ σ' : Sg} {S : ST} {l : List ST} (h : MR σ S l) (e2 : σ'.1 462 2 = σ.1 462 2) (e3 : σ'.1 463 = σ.1 463) (e4 : σ'.1 464 = σ.1 464) : MR σ' S l :=
  ⟨h.1.c e2 e4, by rw [e3]; exact h.2⟩
theorem TX.c {σ σ' : Sg} (h : TX σ) (e1 : σ'.1 438 1 = σ.1 438 1) (e2 : σ'.1 439 = σ.1 439) (e3 : σ'.1 462 5 = σ.1 462 5) (e4 : σ'.1 465 = σ.1 465) : TX σ' := by
  obtain ⟨n, h1, h2, h3, h4⟩ := h
  refine ⟨n, h1, by rw [e1]; exact h2, by rw [e3]; exact h3, fun i hi => ?_⟩
  rw [e2, e4]
  exact h4 i hi
theorem keep_mem {l : List ST} {S T : ST} (h : T ∈ keep l S) : T ∈ l ∨ T = S := by
  unfold keep at h
  rcases List.mem_append.mp h with h | h
  · left
    split at h
    · exact List.mem_of_mem_drop h
    · exact h
  · right
    exact List.mem_singleton.mp h
/-- what the reference's part of a call leaves as it is -/
def F9 (σ σ' : Sg) : Prop := (∀ c, c < 462 → σ'.1 c = σ.1 c) ∧ σ'.1 465 = σ.1 465 ∧ σ'.1 462 5 = σ.1 462 5 ∧ σ'.2 476 = σ.2 476 ∧ σ'.1 462 3 = σ.1 462 3
def G9 (σ σ' : Sg) (k : Int32) : Prop := (∀ c, c < 462 → σ'.1 c = σ.1 c) ∧ σ'.1 465 = σ.1 465 ∧ σ'.1 462 5 = σ.1 462 5 ∧ σ'.2 476 = σ.2 476 ∧ σ'.1 462 3 = k
theorem F9.rf {σ : Sg} : F9 σ σ := ⟨fun _ _ => rfl, rfl, rfl, rfl, rfl⟩
theorem F9.tr {σ σ1 σ2 : Sg} (h : F9 σ σ1) (h2 : F9 σ1 σ2) : F9 σ σ2 := ⟨fun c hc => (h2.1 c hc).trans (h.1 c hc), h2.2.1.trans h.2.1, h2.2.2.1.trans h.2.2.1, h2.2.2.2.1.trans h.2.2.2.1, h2.2.2.2.2.trans h.2.2.2.2⟩
theorem F9.or {σ σ1 : Sg} (h : Or σ σ1) : F9 σ σ1 := ⟨fun c hc => h.2.1 c (by omega) (by omega), h.2.1 465 (by omega) (by omega), h.2.2 5 (by omega), by rw [h.1], h.2.2 3 (by omega)⟩
theorem F9.ou {σ σ1 : Sg} (h : Out σ σ1 463 463) : F9 σ σ1 := ⟨fun c hc => h.2 c (by omega), h.2 465 (by omega), by rw [h.2 462 (by omega)], by rw [h.1], by rw [h.2 462 (by omega)]⟩
theorem F9.fy {σ σ1 : Sg} (h : Fy σ σ1) : F9 σ σ1 := ⟨fun c hc => h.2.1 c (by omega) (by omega), h.2.1 465 (by omega) (by omega), h.2.2 5 (by omega), by rw [h.1], h.2.2 3 (by omega)⟩
theorem G9.s3 {σ : Sg} {k : Int32} : G9 σ (su σ 462 3 k) k := ⟨fun c hc => su_ne (by omega), su_ne (by omega), by rw [su_at, if_neg (by omega)], rfl, by rw [su_at, if_pos ⟨rfl, rfl⟩]⟩
theorem G9.tr {σ σ1 σ2 : Sg} {k : Int32} (h : G9 σ σ1 k) (h2 : F9 σ1 σ2) : G9 σ σ2 k := ⟨fun c hc => (h2.1 c hc).trans (h.1 c hc), h2.2.1.trans h.2.1, h2.2.2.1.trans h.2.2.1, h2.2.2.2.1.trans h.2.2.2.1, h2.2.2.2.2.trans h.2.2.2.2⟩
theorem MR.s3 {σ : Sg} {S : ST} {l : List ST} {k : Int32} (h : MR σ S l) : MR (su σ 462 3 k) S l := h.c (by rw [su_at, if_neg (by omega)]) (su_ne (by omega)) (su_ne (by omega))
theorem RR.s3 {σ : Sg} {k : Int32} (h : RR σ) : RR (su σ 462 3 k) := by
  obtain ⟨S, l, c, m, t⟩ := h
  exact ⟨S, l, c.c (fun c hc => su_ne (by omega)), m.s3, t.c (by rw [su_ne (by omega)]) (su_ne (by omega)) (by rw [su_at, if_neg (by omega)]) (su_ne (by omega))⟩
theorem rf0 {σ : Sg} : fX9_refused σ 462 0 = some (false, su σ 462 3 0) := by
  unfold fX9_refused
  rw [j_nm, if_pos (by decide)]
theorem rf1 {σ : Sg} : fX9_refused σ 462 1 = some (true, su σ 462 3 1) := by
  unfold fX9_refused
  rw [j_nm, if_neg (by decide)]
theorem rf2 {σ : Sg} : fX9_refused σ 462 2 = some (true, su σ 462 3 2) := by
  unfold fX9_refused
  rw [j_nm, if_neg (by decide)]
theorem rf3 {σ : Sg} : fX9_refused σ 462 3 = some (true, su σ 462 3 3) := by
  unfold fX9_refused
  rw [j_nm, if_neg (by decide)]
/-- a call: both end, with one answer, and the relation holds again -/
def PI (F : Option (Int32 × Sg)) (G : Sg → Option (Int32 × Sg)) : Prop := ∃ k σ1 b σ2, F = some (k, σ1) ∧ G σ1 = some (b, σ2) ∧ σ2.1 462 3 = k ∧ RR σ2 ∧ (k = 0 → σ2.2 476 0 = b.toInt64)
theorem pi_no {σ : Sg} {F : Option (Int32 × Sg)} {G : Sg → Option (Int32 × Sg)} {k b : Int32} (h : RR σ) (hF : F = some (k, σ)) (hk : k ≠ 0) (hG : G σ = some (b, su σ 462 3 k)) : PI F G :=
  ⟨k, σ, b, su σ 462 3 k, hF, hG, by rw [su_at, if_pos ⟨rfl, rfl⟩], h.s3, fun z => absurd z hk⟩
theorem pi_ok {σ σ1 : Sg} {F : Option (Int32 × Sg)} {G : Sg → Option (Int32 × Sg)} {v : Int32} {S S' : ST} {l l' : List ST} (tx : TX σ) (m : MR σ S l) (hF : F = some (0, sul σ1 476 0 v.toInt64)) (f8 : ∀ c, 438 ≤ c → σ1.1 c = σ.1 c) (c1 : CR σ1 S' l') (hG : ∀ s, MR s S l → ∃ s', G s = some (v, s') ∧ G9 s s' 0 ∧ MR s' S' l') : PI F G := by
  obtain ⟨s', a, g, m'⟩ := hG (sul σ1 476 0 v.toInt64) (m.c (by show σ1.1 462 2 = _; rw [f8 462 (by omega)]) (f8 463 (by omega)) (f8 464 (by omega)))
  have tx1 : TX (sul σ1 476 0 v.toInt64) := tx.c (by show σ1.1 438 1 = _; rw [f8 438 (by omega)]) (f8 439 (by omega)) (by show σ1.1 462 5 = _; rw [f8 462 (by omega)]) (f8 465 (by omega))
  refine ⟨0, sul σ1 476 0 v.toInt64, v, s', hF, a, g.2.2.2.2, ⟨S', l', c1.c (fun c hc => g.1 c (by omega)), m', tx1.c (by rw [g.1 438 (by omega)]) (g.1 439 (by omega)) g.2.2.1 g.2.1⟩, fun _ => ?_⟩
  rw [g.2.2.2.1]
  show vp_updL ((σ1.2) 476) 0 v.toInt64 0 = _
  rfl
end RA0

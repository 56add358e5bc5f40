/-! THE RELATION: a plan, told by equations; there is but one -/
def vis (V : VW) (n : Nat) (p : Nat) : Bool := decide (V 13 p = n) && decide (V 15 p = 0)
def pls (V P : VW) (n : Nat) : List Nat := (kids V n).filter (fun c => decide (P 1 c = 1))
def lm (pl : List Nat) (f : Nat → Int) : Nat → Int := fun c => if c ∈ pl then f c else 0
def dr (V : VW) (n : Nat) : Nat := (V 8 n).toNat
def LG (V : VW) (mw mh : Nat → Int) (P : VW) (n : Nat) : Prop :=
  (P 1 n = 0 ∨ P 1 n = 1) ∧ (P 1 n = 1 ↔ ∃ p, p < 12 ∧ vis V n p = true) ∧ (P 1 n = 1 → P 2 n = gx (vis V n) mw 12 ∧ P 3 n = gx (vis V n) mh 12 + 1)
def LS (V P : VW) (n : Nat) : Prop :=
  (P 1 n = 0 ∨ P 1 n = 1) ∧ (P 1 n = 1 ↔ ∃ c, c < 23 ∧ V 9 c = n ∧ P 1 c = 1) ∧
  (P 1 n = 1 → P (2 + dr V n) n = (oI (Sm (P (2 + dr V n)) (pls V P n) + (pls V P n).length - 1)).toInt ∧ P (3 - dr V n) n = lgx (P (3 - dr V n)) (pls V P n))
def lrm (V P : VW) (n : Nat) : Int := if 0 < P (6 + dr V n) n - ((pls V P n).length - 1) then P (6 + dr V n) n - ((pls V P n).length - 1) else 0
def lsh (V P : VW) (n : Nat) : Nat → Int := share (pls V P n) (lrm V P n) (lm (pls V P n) (P (2 + dr V n))) (lm (pls V P n) (V 11))
def LA (V P : VW) (n : Nat) : Prop := ∀ k c, (pls V P n)[k]? = some c →
  P (6 + dr V n) c = lsh V P n c ∧ P (7 - dr V n) c = P (7 - dr V n) n ∧ P (4 + dr V n) c = (oI (P (4 + dr V n) n + Sm (fun x => lsh V P n x + 1) ((pls V P n).take k))).toInt ∧ P (5 - dr V n) c = P (5 - dr V n) n
def LR (V P : VW) : Prop := ∀ w n : Nat, w < 5 → V 5 w = n → P 4 n = V 1 w ∧ P 5 n = V 2 w ∧ P 6 n = V 3 w ∧ P 7 n = V 4 w
def Lay (V : VW) (mw mh : Nat → Int) (P : VW) : Prop :=
  (∀ n, n < 23 → V 8 n = 2 → LG V mw mh P n) ∧ (∀ n, n < 23 → V 8 n ≤ 1 → LS V P n) ∧ LR V P ∧ ∀ n, n < 23 → V 8 n ≤ 1 → P 1 n = 1 → LA V P n
section LAY
variable {V : VW} {d : Nat → Nat} {wn : Nat → Int} {X : Nat → Bool} {mw mh : Nat → Int} {P Q : VW}
theorem Tree.drs (h : Tree V d wn X) {n : Nat} (hn : n < 23) (k : V 8 n ≤ 1) : dr V n ≤ 1 ∧ V 8 n = dr V n := by
  have := h.ki hn
  unfold dr
  omega
theorem Tree.pls_mem (h : Tree V d wn X) {n : Nat} (hn : n < 23) (k : V 8 n ≤ 1) {c : Nat} : c ∈ pls V P n ↔ c < 23 ∧ V 9 c = n ∧ P 1 c = 1 := by
  unfold pls
  rw [List.mem_filter, h.kids_mem hn k]
  simp only [decide_eq_true_eq]
  exact ⟨fun ⟨⟨a, b⟩, c⟩ => ⟨a, b, c⟩, fun ⟨a, b, c⟩ => ⟨⟨a, b⟩, c⟩⟩
theorem Tree.pls_nd (h : Tree V d wn X) {n : Nat} (hn : n < 23) (k : V 8 n ≤ 1) : (pls V P n).Nodup := (h.kids_nd hn k).filter _
theorem Tree.pls_len (h : Tree V d wn X) {n : Nat} (hn : n < 23) (k : V 8 n ≤ 1) : (pls V P n).length ≤ 23 := by
  have := list_cnt (N := 23) (l := pls V P n) (fun c => decide (V 9 c = n) && decide (P 1 c = 1)) (h.pls_nd hn k) (fun x => by
    rw [h.pls_mem hn k]
    simp only [Bool.and_eq_true, decide_eq_true_eq])
  have := cnt_le (fun c => decide (V 9 c = n) && decide (P 1 c = 1)) 23
  omega
theorem pls_cg {V : VW} {P Q : VW} (h : ∀ c, c ∈ kids V n → P 1 c = Q 1 c) : pls V P n = pls V Q n := by
  unfold pls
  exact List.filter_congr (fun c hc => by rw [h c hc])
theorem lm_cg {pl : List Nat} {f g : Nat → Int} (h : ∀ c ∈ pl, f c = g c) : lm pl f = lm pl g := by
  funext c
  unfold lm
  by_cases q : c ∈ pl
  · rw [if_pos q, if_pos q, h c q]
  · rw [if_neg q, if_neg q]
theorem lgx_cg {f g : Nat → Int} : ∀ {l : List Nat}, (∀ c ∈ l, f c = g c) → lgx f l = lgx g l
  | [], _ => rfl
  | c :: t, h => by
    unfold lgx
    rw [h c (List.mem_cons_self ..), lgx_cg (l := t) (fun x hx => h x (List.mem_cons_of_mem _ hx))]
end LAY

/-! THE RELATION: read (5): the tabs of a new group, in the class -/
section RBA
variable {V V' : VW} {Z : Nat → Bool}
/-- what a group under construction may change -/
theorem tabs_any (tb : Tabs V Z) {f : Nat} (hz : Z f = true) (e8 : V' 8 = V 8) (e13 : V' 13 = V 13) (e14 : V' 14 = V 14) (e15 : ∀ p, p < 12 → V' 15 p = V 15 p ∨ (V 13 p = f ∧ (V' 15 p = 0 ∨ V' 15 p = 1))) (e12 : ∀ n, n < 23 → n ≠ f → V' 12 n = V 12 n) : Tabs V' Z := by
  refine ⟨fun p hp => ?_, fun p hp q => ?_, fun p hp => ?_, fun g hg q => ?_⟩
  · rw [e13, e8]
    exact tb.gr hp
  · rw [e13] at q
    rw [e14]
    have := tb.no hp q
    refine ⟨this.1, ?_⟩
    rcases e15 p hp with z | ⟨z, -⟩
    · rw [z]; exact this.2
    · omega
  · rcases e15 p hp with z | ⟨-, z⟩
    · rw [z]; exact tb.hi hp
    · exact z
  · rw [e8] at q
    rw [e13, e14]
    refine ⟨tb.nu hg q, fun x => ?_⟩
    have gf : g ≠ f := fun z => by rw [z, hz] at x; cases x
    obtain ⟨a, b⟩ := tb.fu hg q x
    refine ⟨a, ?_⟩
    have r15 : ∀ p : Nat, p < 12 → V 13 p = g → V' 15 p = V 15 p := fun p hp y => by
      rcases e15 p hp with z | ⟨z, -⟩
      · exact z
      · exact absurd (show g = f by omega) gf
    unfold Act
    rw [e12 g hg gf, e13]
    rcases b with ⟨u, v⟩ | ⟨u, u1, u2, u3, u4⟩
    · exact Or.inl ⟨u, fun p hp y => by rw [r15 p hp y]; exact v p hp y⟩
    · exact Or.inr ⟨u, u1, u2, u3, by rw [r15 u u1 u3]; exact u4⟩
def Msk (V : VW) (m : Nat) : Prop := ∀ q, q < 12 → Nat.testBit m q = true → V 13 q = -1 ∧ V 15 q = 0
/-- one tab -/
def tb2 (f : Int) (q kk : Nat) (V : VW) : VW := if kk = 1 then v_hide (v_join V q f) q else v_join V q f
theorem tb2_rows {f q : Nat} (hq : q < 12) (hf : f < 23) (kk : Nat) (h15 : V 15 q = 0) :
    (∀ i, i < 12 → tb2 f q kk V 13 i = if i = q then (f : Int) else V 13 i) ∧
    (∀ i, i < 12 → tb2 f q kk V 14 i = if i = q then (v_tc V f : Int) else V 14 i) ∧
    (∀ i, i < 12 → tb2 f q kk V 15 i = if i = q then (if kk = 1 then 1 else 0) else V 15 i) ∧
    (∀ i, i < 23 → i ≠ f → tb2 f q kk V 12 i = V 12 i) ∧
    ∀ j, j ≠ 12 → j ≠ 13 → j ≠ 14 → j ≠ 15 → tb2 f q kk V j = V j := by
  obtain ⟨r13, r14, r12, rj⟩ := join_rows (V := V) hq hf
  unfold tb2
  by_cases z : kk = 1
  · rw [if_pos z]
    have hg : ga (v_join V q f 13) 12 (q : Int) = f := by rw [ga_in hq, r13 q, if_pos rfl]
    have h15' : ∀ i, v_hide (v_join V q f) q 15 i = if i = q then 1 else V 15 i := fun i => by
      have e : v_hide (v_join V q f) q 15 = up (v_join V q f) 15 q 1 15 := by
        unfold v_hide
        by_cases y : ga (v_join V q f 12) 23 (ga (v_join V q f 13) 12 (q : Int)) = q
        · rw [if_pos y, up_ne (by decide)]
        · rw [if_neg y]
      rw [e, up15 hq, rj 15 (by decide) (by decide) (by decide)]
    have h12' : ∀ i, i < 23 → i ≠ f → v_hide (v_join V q f) q 12 i = V 12 i := fun i hi ne => by
      unfold v_hide
      rw [hg]
      by_cases y : ga (v_join V q f 12) 23 (f : Int) = q
      · rw [if_pos y, up12 hf, if_neg ne, up_ne (by decide), r12 i, if_neg ne]
      · rw [if_neg y, up_ne (by decide), r12 i, if_neg ne]
    refine ⟨fun i _ => ?_, fun i _ => ?_, fun i _ => ?_, h12', fun j q12 q13 q14 q15 => ?_⟩
    · rw [v_hide_ne (by decide) (by decide), r13 i]
    · rw [v_hide_ne (by decide) (by decide), r14 i]
    · rw [h15' i, if_pos z]
    · rw [v_hide_ne q12 q15, rj j q12 q13 q14]
  · rw [if_neg z]
    refine ⟨fun i _ => r13 i, fun i _ => r14 i, fun i _ => ?_, fun i _ ne => by rw [r12 i, if_neg ne], fun j q12 q13 q14 _ => rj j q12 q13 q14⟩
    rw [rj 15 (by decide) (by decide) (by decide), if_neg z]
    by_cases y : i = q
    · rw [if_pos y, y, h15]
    · rw [if_neg y]
theorem tb2_ok (tb : Tabs V Z) {f q m : Nat} (hz : Z f = true) (hq : q < 12) (hf : f < 23) (k2 : V 8 f = 2) (hm : m < 4096) (mq0 : Msk V m) (hb : Nat.testBit m q = true) (kk : Nat) : Tabs (tb2 f q kk V) Z ∧ v_tc (tb2 f q kk V) f = v_tc V f + 1 ∧ Msk (tb2 f q kk V) (m &&& (4095 - 2 ^ q)) := by
  obtain ⟨u13, u15⟩ := mq0 q hq hb
  obtain ⟨r13, r14, r15, r12, rj⟩ := tb2_rows hq hf kk u15
  obtain ⟨j13, j14, j12, jj⟩ := join_rows (V := V) hq hf
  have tj := join_tabs tb (X' := Z) hq u13 hf k2 (fun _ _ => rfl)
  have e13 : tb2 f q kk V 13 = v_join V q f 13 := by
    unfold tb2
    by_cases z : kk = 1
    · rw [if_pos z, v_hide_ne (by decide) (by decide)]
    · rw [if_neg z]
  have e14 : tb2 f q kk V 14 = v_join V q f 14 := by
    unfold tb2
    by_cases z : kk = 1
    · rw [if_pos z, v_hide_ne (by decide) (by decide)]
    · rw [if_neg z]
  refine ⟨tabs_any tj hz (by rw [rj 8 (by decide) (by decide) (by decide) (by decide), jj 8 (by decide) (by decide) (by decide)]) e13 e14 (fun p hp => ?_) (fun i hi ne => ?_), ?_, fun i hi b => ?_⟩
  · rw [r15 p hp, jj 15 (by decide) (by decide) (by decide), j13 p]
    by_cases z : p = q
    · rw [if_pos z, if_pos z]
      right
      refine ⟨rfl, ?_⟩
      by_cases y : kk = 1
      · rw [if_pos y]; exact Or.inr rfl
      · rw [if_neg y]; exact Or.inl rfl
    · rw [if_neg z]
      exact Or.inl rfl
  · rw [r12 i hi ne, j12 i, if_neg ne]
  · unfold v_tc
    refine cnt_one_more (i0 := q) hq (fun i hi ne => by rw [r13 i hi, if_neg ne]) (decide_eq_false (by omega)) (by rw [r13 q hq, if_pos rfl]; exact decide_eq_true rfl)
  · rw [and_bit hm hq] at b
    have ne : i ≠ q := fun z => by rw [decide_eq_false (fun w => w z), Bool.and_false] at b; cases b
    rw [decide_eq_true ne, Bool.and_true] at b
    rw [r13 i hi, r15 i hi, if_neg ne, if_neg ne]
    exact mq0 i hi b
theorem btab_s (f : Int) (q kk : Nat) (l : List (Nat × Nat)) (V : VW) : btab f ((q, kk) :: l) V = btab f l (tb2 f q kk V) := rfl
end RBA

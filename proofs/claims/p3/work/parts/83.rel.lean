/-! THE RELATION: states of the class, what they do -/
def exB (S : ST) (p : Nat) : Bool := Nat.testBit (S_ex S).toNat p
def svB (S : ST) (s : Nat) : Bool := Nat.testBit (S_sv S).toNat s
def plc (V : VW) (p : Nat) : Bool := decide (V 13 p ≠ -1)
theorem stv_pl {σ σ' : Sg} {b : Nat} (h : Out σ σ' (b + 5 + 1) (b + 5 + 15)) : stv σ' b = ((stv σ b).1, (stv σ b).2.1, (stv σ b).2.2.1, (stv σ b).2.2.2.1, pv σ' (b + 5), (stv σ b).2.2.2.2.2) := by
  unfold stv
  rw [h.2 b (by omega), h.2 (b + 1) (by omega), h.2 (b + 2) (by omega), odv_out h (by omega), slv_eq (fun s hs => pv_out h (by unfold slo; omega))]
theorem stv_fo {σ σ' : Sg} {b : Nat} (h : Out σ σ' (b + 3) (b + 3 + 1)) : stv σ' b = ((stv σ b).1, (stv σ b).2.1, (stv σ b).2.2.1, odv σ' (b + 3), (stv σ b).2.2.2.2) := by
  unfold stv
  rw [h.2 b (by omega), h.2 (b + 1) (by omega), h.2 (b + 2) (by omega), pv_out h (by omega), slv_eq (fun s hs => pv_out h (by unfold slo; omega))]
theorem stv_b {σ σ' : Sg} {b : Nat} (h : Out σ σ' b b) : stv σ' b = (((σ'.1 b 0).toInt, (σ'.1 b 6).toInt), (stv σ b).2) := by
  unfold stv
  rw [h.2 (b + 1) (by omega), h.2 (b + 2) (by omega), odv_out h (by omega), pv_out h (by omega), slv_eq (fun s hs => pv_out h (by unfold slo; omega))]
theorem stv_mn {σ σ' : Sg} {b : Nat} (h : Out σ σ' (b + 1) (b + 2)) : stv σ' b = ((stv σ b).1, rw12 (σ'.1 (b + 1)), rw12 (σ'.1 (b + 2)), (stv σ b).2.2.2) := by
  unfold stv
  rw [h.2 b (by omega), odv_out h (by omega), pv_out h (by omega), slv_eq (fun s hs => pv_out h (by unfold slo; omega))]
section CS
variable {σ : Sg} {b : Nat}
theorem ex_get (h : 0 ≤ S_ex (stv σ b) ∧ S_ex (stv σ b) < 4096) : σ.1 b 0 = nI (S_ex (stv σ b)).toNat := j_eq.mpr (by
  rw [j_nI (by omega)]
  show (σ.1 b 0).toInt = (((σ.1 b 0).toInt).toNat : Int)
  have h0 : 0 ≤ (σ.1 b 0).toInt := h.1
  omega)
theorem sv_get (h : 0 ≤ S_sv (stv σ b) ∧ S_sv (stv σ b) < 8) : σ.1 b 6 = nI (S_sv (stv σ b)).toNat := j_eq.mpr (by
  rw [j_nI (by omega)]
  show (σ.1 b 6).toInt = (((σ.1 b 6).toInt).toNat : Int)
  have h0 : 0 ≤ (σ.1 b 6).toInt := h.1
  omega)
theorem s_exists (h : 0 ≤ S_ex (stv σ b) ∧ S_ex (stv σ b) < 4096) (p : Int32) : fX4_exists σ b p = some (decide (0 ≤ p.toInt ∧ p.toInt < 12) && exB (stv σ b) p.toInt.toNat) := by
  have e12 : (12 : Int32).toInt = 12 := rfl
  unfold fX4_exists
  by_cases q0 : p < 0
  · rw [if_pos q0, decide_eq_false (fun z => by rw [j_lt, jz0] at q0; omega)]
    rfl
  · rw [if_neg q0]
    by_cases q1 : 12 ≤ p
    · rw [if_pos q1, decide_eq_false (fun z => by rw [j_le, e12] at q1; omega)]
      rfl
    · rw [if_neg q1]
      rw [j_lt, jz0] at q0
      rw [j_le, e12] at q1
      have ep : p = nI p.toInt.toNat := j_of (by omega)
      have g := bt_get (m := (S_ex (stv σ b)).toNat) (p := p.toInt.toNat) (by omega) (by omega)
      rw [← ep, ← ex_get h] at g
      rw [decide_eq_true (p := 0 ≤ p.toInt ∧ p.toInt < 12) (by omega), Bool.true_and]
      unfold exB
      rw [← g]
      split
      · rename_i z
        rw [decide_eq_true z]
      · rename_i z
        rw [decide_eq_false z]
theorem s_lowestFreePane (h : 0 ≤ S_ex (stv σ b) ∧ S_ex (stv σ b) < 4096) : fX4_lowestFreePane σ b = some (oI (fnd (fun p => !exB (stv σ b) p) 12)) := by
  unfold fX4_lowestFreePane
  refine lp_fnd (F := fun n l => fX4_lowestFreePane_2 σ b n l) 12 (by decide) ?_ ?_ FU (by decide)
  · intro n i hi
    show fX4_lowestFreePane_2 σ b (n + 1) (nI i) = _
    rw [fX4_lowestFreePane_2, if_neg (n_ge 12 (m := 12) rfl hi (by decide)), s_exists h, j_b, j_nI (by omega), decide_eq_true (by omega), Bool.true_and, Int.toNat_natCast]
    cases exB (stv σ b) i
    · rw [if_neg (by decide)]
      rfl
    · rw [if_pos rfl, j_s]
      rfl
  · intro n
    show fX4_lowestFreePane_2 σ b (n + 1) (nI 12) = _
    rw [fX4_lowestFreePane_2, if_pos (n_le 12 (m := 12) rfl (by decide))]
theorem s_addPane (h : 0 ≤ S_ex (stv σ b) ∧ S_ex (stv σ b) < 4096) {p : Int32} {k : Nat} (hp : p.toInt = k) (hk : k < 12) : ∃ σ', fX4_addPane σ b p = some σ' ∧ Out σ σ' b b ∧ stv σ' b = (((((S_ex (stv σ b)).toNat ||| 2 ^ k : Nat) : Int), S_sv (stv σ b)), (stv σ b).2) := by
  have ep : p = nI k := j_eq.mpr (by rw [hp, j_nI (by omega)])
  have hl := or_lt (m := (S_ex (stv σ b)).toNat) (p := k) (by omega) hk
  unfold fX4_addPane
  rw [j_nm, ep, ex_get h, bt_or hk]
  refine ⟨_, rfl, su_out, ?_⟩
  rw [stv_b su_out, su_at, if_pos ⟨rfl, rfl⟩, su_at, if_neg (by omega), j_nI (by omega)]
  rfl
theorem s_dropPane (h : 0 ≤ S_ex (stv σ b) ∧ S_ex (stv σ b) < 4096) {p : Int32} {k : Nat} (hp : p.toInt = k) (hk : k < 12) : ∃ σ', fX4_dropPane σ b p = some σ' ∧ Out σ σ' b b ∧ stv σ' b = (((((S_ex (stv σ b)).toNat &&& (4095 - 2 ^ k) : Nat) : Int), S_sv (stv σ b)), (stv σ b).2) := by
  have ep : p = nI k := j_eq.mpr (by rw [hp, j_nI (by omega)])
  have hl := and_lt (m := (S_ex (stv σ b)).toNat) (k := 4095 - 2 ^ k) (by omega)
  unfold fX4_dropPane
  rw [j_nm, ep, ex_get h, bt_and (by omega) hk]
  refine ⟨_, rfl, su_out, ?_⟩
  rw [stv_b su_out, su_at, if_pos ⟨rfl, rfl⟩, su_at, if_neg (by omega), j_nI (by omega)]
  rfl
def ur (f : Nat → Int) (p : Nat) (x : Int) : Nat → Int := fun i => if i = p then x else f i
theorem s_setMinimums {p : Int32} {k : Nat} (hp : p.toInt = k) (hk : k < 12) (w h : Int32) : ∃ σ', fX4_setMinimums σ b p w h = some σ' ∧ Out σ σ' (b + 1) (b + 2) ∧ stv σ' b = ((stv σ b).1, ur (S_mw (stv σ b)) k w.toInt, ur (S_mh (stv σ b)) k h.toInt, (stv σ b).2.2.2) := by
  have ep : p = nI k := j_eq.mpr (by rw [hp, j_nI (by omega)])
  unfold fX4_setMinimums
  rw [ep, s_putn (by decide) hk, j_b, s_putn (by decide) hk, j_b]
  refine ⟨_, rfl, (su_out.mo (by omega) (by omega)).tr (su_out.mo (by omega) (by omega)), ?_⟩
  rw [stv_mn ((su_out.mo (by omega) (by omega)).tr (su_out.mo (by omega) (by omega)))]
  have r1 : ∀ (f : Nat → Int32) (g : Nat → Int32) (v : Int32), (∀ i, g i = if i = k then v else f i) → rw12 g = ur (rw12 f) k v.toInt := by
    intro f g v hg
    funext i
    unfold rw12 ur
    rw [hg i]
    by_cases z : i = k
    · rw [if_pos z, if_pos (by omega), if_pos z]
    · rw [if_neg z, if_neg z]
  rw [r1 (σ.1 (b + 1)) ((su (su σ (b + 1) k w) (b + 2) k h).1 (b + 1)) w (fun i => by
    rw [su_ne (by omega), su_at]
    by_cases z : i = k
    · rw [if_pos ⟨rfl, z⟩, if_pos z]
    · rw [if_neg (fun y => z y.2), if_neg z]), r1 (σ.1 (b + 2)) ((su (su σ (b + 1) k w) (b + 2) k h).1 (b + 2)) h (fun i => by
    rw [su_at]
    by_cases z : i = k
    · rw [if_pos ⟨rfl, z⟩, if_pos z]
    · rw [if_neg (fun y => z y.2), if_neg z, su_ne (by omega)])]
  rfl
theorem s_isSaved (h : 0 ≤ S_sv (stv σ b) ∧ S_sv (stv σ b) < 8) {p : Int32} {k : Nat} (hp : p.toInt = k) (hk : k < 3) : fX4_isSaved σ b p = some (svB (stv σ b) k) := by
  have ep : p = nI k := j_eq.mpr (by rw [hp, j_nI (by omega)])
  unfold fX4_isSaved svB
  rw [ep, sv_get h]
  have g := bt_get (m := (S_sv (stv σ b)).toNat) (p := k) (by omega) (by omega)
  rw [← g]
  split
  · rename_i z
    rw [decide_eq_true z]
  · rename_i z
    rw [decide_eq_false z]
def us (f : Nat → VW) (s : Nat) (V : VW) : Nat → VW := fun i => if i = s then V else f i
theorem s_saveSlot (h : 0 ≤ S_sv (stv σ b) ∧ S_sv (stv σ b) < 8) {p : Int32} {k : Nat} (hp : p.toInt = k) (hk : k < 3) : ∃ σ', fX4_saveSlot σ b p = some σ' ∧ Out σ σ' b (b + 69) ∧ stv σ' b = ((S_ex (stv σ b), (((S_sv (stv σ b)).toNat ||| 2 ^ k : Nat) : Int)), (stv σ b).2.1, (stv σ b).2.2.1, (stv σ b).2.2.2.1, (stv σ b).2.2.2.2.1, us (S_sl (stv σ b)) k (S_pl (stv σ b))) := by
  have ep : p = nI k := j_eq.mpr (by rw [hp, j_nI (by omega)])
  have e3 : ([b + 22, b + 38, b + 54] : List Nat).length = 3 := rfl
  have hg := sv_get h
  obtain ⟨m, hm⟩ : ∃ m : Nat, (S_sv (stv σ b)).toNat = m := ⟨_, rfl⟩
  rw [hm] at hg ⊢
  have hl : m ||| 2 ^ k < 4096 := or_lt (by omega) (by omega)
  unfold fX4_saveSlot
  rw [ep, if_neg (by rw [j_lt, j_nI (by omega), jz0]; omega), e3, if_neg (n_ge (nI 3) (m := 3) rfl hk (by decide)), if_pos (j_ckn hk (by decide)), rgs b hk]
  obtain ⟨σ1, a1, o1, v1⟩ := s_plcopy (σ := σ) (b := b + slo k) (c := b + 5) (by unfold slo; omega)
  have c6 : σ1.1 b 6 = nI m := by rw [o1.2 b (by unfold slo; omega)]; exact hg
  rw [a1, j_b, j_nm, c6, bt_or (by omega)]
  have O : Out σ (su σ1 b 6 (nI (m ||| 2 ^ k))) b (b + 69) := (o1.mo (by unfold slo; omega) (by unfold slo; omega)).tr (su_out.mo (by omega) (by omega))
  refine ⟨_, rfl, O, ?_⟩
  unfold stv
  have f1 : ∀ c, b < c → c ≤ b + 22 → (su σ1 b 6 (nI (m ||| 2 ^ k))).1 c = σ.1 c := fun c h1 h2 => by
    rw [su_ne (by omega), o1.2 c (by unfold slo; omega)]
  refine Prod.ext (Prod.ext ?_ ?_) (Prod.ext ?_ (Prod.ext ?_ (Prod.ext ?_ (Prod.ext ?_ ?_))))
  · show ((su σ1 b 6 (nI (m ||| 2 ^ k))).1 b 0).toInt = (σ.1 b 0).toInt
    rw [su_at, if_neg (by omega), o1.2 b (by unfold slo; omega)]
  · show ((su σ1 b 6 (nI (m ||| 2 ^ k))).1 b 6).toInt = _
    rw [su_at, if_pos ⟨rfl, rfl⟩, j_nI (by omega)]
  · show rw12 _ = rw12 _
    rw [f1 (b + 1) (by omega) (by omega)]
  · show rw12 _ = rw12 _
    rw [f1 (b + 2) (by omega) (by omega)]
  · show odv _ _ = odv _ _
    unfold odv
    rw [f1 (b + 3) (by omega) (by omega), f1 (b + 3 + 1) (by omega) (by omega)]
  · show pv _ _ = pv _ _
    rw [pv_out su_out (by omega), pv_out o1 (by unfold slo; omega)]
  · show slv _ b = us (slv σ b) k (pv σ (b + 5))
    funext s
    unfold us slv
    by_cases q : s < 3
    · rw [if_pos q, if_pos q, pv_out su_out (by unfold slo; omega)]
      by_cases z : s = k
      · rw [if_pos z, z, v1]
      · rw [if_neg z, pv_out o1 (by unfold slo; omega)]
    · rw [if_neg q, if_neg q, if_neg (by omega)]
theorem s_settleFocus (h : DI (odv σ (b + 3))) (hp : Pn (odv σ (b + 3))) : ∃ σ', fX4_settleFocus σ b = some σ' ∧ Out σ σ' (b + 3) (b + 3 + 1) ∧ odv σ' (b + 3) = fc (plc (pv σ (b + 5))) (odv σ (b + 3)) 12 := by
  unfold fX4_settleFocus
  refine lp (F := fun n (s : Sg × Int32) => fX4_settleFocus_2 b n s.1 s.2) (Q := fun r => ∃ σ', r = some σ' ∧ Out σ σ' (b + 3) (b + 3 + 1) ∧ odv σ' (b + 3) = fc (plc (pv σ (b + 5))) (odv σ (b + 3)) 12) (fun i s => s.2 = nI i ∧ Out σ s.1 (b + 3) (b + 3 + 1) ∧ odv s.1 (b + 3) = fc (plc (pv σ (b + 5))) (odv σ (b + 3)) i) 12 ?_ ?_ 12 0 FU (σ, 0) rfl (by decide) ⟨rfl, Out.rf, rfl⟩
  · rintro n i ⟨s, l⟩ hi ⟨rfl, ho, hv⟩
    simp only at ho hv
    obtain ⟨x1, x2, x3⟩ := fc_list (c := plc (pv σ (b + 5))) h hp i (by omega)
    rw [← hv] at x2 x3
    have ok := x2.1
    have pe : pv s (b + 5) = pv σ (b + 5) := pv_out ho (by omega)
    have ei : (nI i).toInt = i := j_nI (by omega)
    show ∃ s' : Sg × Int32, _ ∧ fX4_settleFocus_2 b (n + 1) s (nI i) = _
    rw [fX4_settleFocus_2, if_neg (n_ge 12 (m := 12) rfl hi (by decide)), s_groupOf, j_b, ei, ga_in hi, pe]
    unfold fX4_settleFocus_51
    have t13 : (oI (pv σ (b + 5) 13 i)).toInt = pv σ (b + 5) 13 i := j_oI (pv_rg _ _ _ _).1 (pv_rg _ _ _ _).2
    by_cases q : pv σ (b + 5) 13 i = -1
    · obtain ⟨σ2, a2, o2, v2⟩ := s_leave ok (nI i)
      rw [if_pos (by rw [j_eq, t13, jm1]; exact q), a2, j_b]
      refine ⟨(σ2, nI (i + 1)), ⟨rfl, ho.tr o2, ?_⟩, by rw [j_s]⟩
      show odv σ2 (b + 3) = fc _ _ (i + 1)
      unfold fc
      rw [v2, hv, ei, if_neg (by unfold plc; simp [q])]
    · rw [if_neg (by rw [j_eq, t13, jm1]; exact q), s_indexOf ok, j_b, ei]
      have pc : plc (pv σ (b + 5)) i = true := by unfold plc; simp [q]
      have hr := o_ix_rg (o := odv s (b + 3)) (i : Int)
      unfold OkO at ok
      by_cases z : o_ix (odv s (b + 3)) i = -1
      · obtain ⟨σ2, a2, o2, v2⟩ := s_putLast (σ := s) (c := b + 3) ok (nI i)
        rw [if_pos (by rw [z]; rfl), a2, j_b]
        refine ⟨(σ2, nI (i + 1)), ⟨rfl, ho.tr o2, ?_⟩, by rw [j_s]⟩
        show odv σ2 (b + 3) = fc _ _ (i + 1)
        unfold fc
        rw [if_pos pc, ← hv, if_pos z, v2, ei]
      · rw [if_neg (by rw [show (-1 : Int32) = oI (-1) from rfl, j_oe (by omega) (by omega) (by omega) (by omega)]; exact z)]
        refine ⟨(s, nI (i + 1)), ⟨rfl, ho, ?_⟩, by rw [j_s]⟩
        show odv s (b + 3) = fc _ _ (i + 1)
        unfold fc
        rw [if_pos pc, ← hv, if_neg z]
  · rintro n ⟨s, l⟩ ⟨rfl, ho, hv⟩
    show ∃ σ', fX4_settleFocus_2 b (n + 1) s (nI 12) = some σ' ∧ _
    rw [fX4_settleFocus_2, if_pos (n_le 12 (m := 12) rfl (by decide))]
    exact ⟨s, rfl, ho, hv⟩
/-- the panes that don't exist are taken away, one by one -/
def wds (c : Nat → Bool) (V : VW) : Nat → VW
  | 0 => V
  | n + 1 => if c n then v_withdraw (wds c V n) n else wds c V n
theorem wds_inv {c : Nat → Bool} {V : VW} {d : Nat → Nat} {wn : Nat → Int} (h : Inv V d wn) : ∀ n, n ≤ 12 → Inv (wds c V n) d wn ∧ (∀ p, p < 12 → wds c V n 13 p = if p < n ∧ c p = true then -1 else V 13 p)
  | 0, _ => ⟨h, fun p _ => by rw [if_neg (by omega)]; rfl⟩
  | n + 1, hn => by
    obtain ⟨i, f⟩ := wds_inv h n (by omega)
    unfold wds
    by_cases q : c n = true
    · rw [if_pos q]
      obtain ⟨i2, w2⟩ := withdraw_ok i (p := n) (by omega)
      refine ⟨i2, fun p hp => ?_⟩
      rw [w2.1 p hp, f p hp]
      by_cases e : p = n
      · rw [if_pos e, if_pos ⟨by omega, by rw [e]; exact q⟩]
      · rw [if_neg e]
        by_cases z : p < n ∧ c p = true
        · rw [if_pos z, if_pos ⟨by omega, z.2⟩]
        · rw [if_neg z, if_neg (fun y => z ⟨by omega, y.2⟩)]
    · rw [if_neg q]
      refine ⟨i, fun p hp => ?_⟩
      rw [f p hp]
      by_cases z : p < n ∧ c p = true
      · rw [if_pos z, if_pos ⟨by omega, z.2⟩]
      · rw [if_neg z, if_neg (fun y => z ⟨by
          have : p ≠ n := fun x => q (by rw [← x]; exact y.2)
          omega, y.2⟩)]
/-- what restoring makes of the placement -/
def v_load (W V : VW) : VW := up (up W 3 0 (V 3 0)) 4 0 (V 4 0)
theorem s_loadSlot {d : Nat → Nat} {wn : Nat → Int} (hx : 0 ≤ S_ex (stv σ b) ∧ S_ex (stv σ b) < 4096) {p : Int32} {k : Nat} (hp : p.toInt = k) (hk : k < 3) (hI : Inv (v_load (S_sl (stv σ b) k) (S_pl (stv σ b))) d wn) (hd : DI (S_fo (stv σ b))) (hn : Pn (S_fo (stv σ b))) : ∃ σ', fX4_loadSlot σ b p = some σ' ∧ Out σ σ' (b + 3) (b + 20) ∧ stv σ' b = ((stv σ b).1, (stv σ b).2.1, (stv σ b).2.2.1, fc (plc (wds (fun q => !exB (stv σ b) q) (v_load (S_sl (stv σ b) k) (S_pl (stv σ b))) 12)) (S_fo (stv σ b)) 12, wds (fun q => !exB (stv σ b) q) (v_load (S_sl (stv σ b) k) (S_pl (stv σ b))) 12, (stv σ b).2.2.2.2.2) := by
  have ep : p = nI k := j_eq.mpr (by rw [hp, j_nI (by omega)])
  have e3 : ([b + 22, b + 38, b + 54] : List Nat).length = 3 := rfl
  have sl : S_sl (stv σ b) k = pv σ (b + slo k) := by
    show slv σ b k = _
    unfold slv
    rw [if_pos hk]
  unfold fX4_loadSlot
  rw [ep, if_neg (by rw [j_lt, j_nI (by omega), jz0]; omega), e3, if_pos (by rw [j_lt, j_nI (by omega), j_nI (by omega)]; omega), s_v3, j_b, s_v4, j_b, if_pos (j_ckn hk (by decide)), rgs b hk]
  obtain ⟨σ1, a1, o1, v1⟩ := s_plcopy (σ := σ) (b := b + 5) (c := b + slo k) (by unfold slo; omega)
  obtain ⟨σ2, a2, o2, v2⟩ := s_setSize (σ := σ1) (b := b + 5) 0 (oI (ga (pv σ (b + 5) 3) 5 (0 : Int32).toInt)) (oI (ga (pv σ (b + 5) 4) 5 (0 : Int32).toInt))
  rw [a1, j_b, a2, j_b]
  have g3 : ga (pv σ (b + 5) 3) 5 (0 : Int32).toInt = pv σ (b + 5) 3 0 := ga_in (i := 0) (by decide)
  have g4 : ga (pv σ (b + 5) 4) 5 (0 : Int32).toInt = pv σ (b + 5) 4 0 := ga_in (i := 0) (by decide)
  rw [v1, t_ga, t_ga, g3, g4, ← sl] at v2
  have v2 : pv σ2 (b + 5) = v_load (S_sl (stv σ b) k) (S_pl (stv σ b)) := v2
  have O2 : Out σ σ2 (b + 5 + 1) (b + 5 + 15) := o1.tr o2
  have ex : ∀ s : Sg, Out σ s (b + 5 + 1) (b + 5 + 15) → exB (stv s b) = exB (stv σ b) ∧ (0 ≤ S_ex (stv s b) ∧ S_ex (stv s b) < 4096) := fun s hs => by
    have : S_ex (stv s b) = S_ex (stv σ b) := by rw [stv_pl hs]
    exact ⟨by funext q; unfold exB; rw [this], by rw [this]; exact hx⟩
  refine lp (F := fun n (s : Sg × Int32) => fX4_loadSlot_64 b n s.1 s.2) (Q := fun r => ∃ σ', r = some σ' ∧ Out σ σ' (b + 3) (b + 20) ∧ stv σ' b = ((stv σ b).1, (stv σ b).2.1, (stv σ b).2.2.1, fc (plc (wds (fun q => !exB (stv σ b) q) (v_load (S_sl (stv σ b) k) (S_pl (stv σ b))) 12)) (S_fo (stv σ b)) 12, wds (fun q => !exB (stv σ b) q) (v_load (S_sl (stv σ b) k) (S_pl (stv σ b))) 12, (stv σ b).2.2.2.2.2)) (fun i s => s.2 = nI i ∧ Out σ s.1 (b + 5 + 1) (b + 5 + 15) ∧ pv s.1 (b + 5) = wds (fun q => !exB (stv σ b) q) (v_load (S_sl (stv σ b) k) (S_pl (stv σ b))) i) 12 ?_ ?_ 12 0 FU (σ2, 0) rfl (by decide) ⟨rfl, O2, v2⟩
  · rintro n i ⟨s, l⟩ hi ⟨rfl, ho, hv⟩
    simp only at ho hv
    obtain ⟨I, -⟩ := wds_inv (c := fun q => !exB (stv σ b) q) hI i (by omega)
    rw [← hv] at I
    obtain ⟨i1, i2, i3, i4⟩ := I
    have ei : (nI i).toInt = i := j_nI (by omega)
    obtain ⟨x1, x2⟩ := ex s ho
    show ∃ s' : Sg × Int32, _ ∧ fX4_loadSlot_64 b (n + 1) s (nI i) = _
    rw [fX4_loadSlot_64, if_neg (n_ge 12 (m := 12) rfl hi (by decide)), s_exists x2, j_b, ei, decide_eq_true (by omega), Bool.true_and, Int.toNat_natCast, x1]
    unfold fX4_loadSlot_89
    cases q : exB (stv σ b) i
    · obtain ⟨σ3, a3, o3, v3⟩ := s_withdraw (σ := s) (b := b + 5) (nI i) (by rw [ei]; exact (i2.sp2 i).1) (by rw [ei]; exact (i2.sp2 i).2) (i3.ok (by decide))
      rw [if_neg (by decide), a3, j_b]
      refine ⟨(σ3, nI (i + 1)), ⟨rfl, ho.tr o3, ?_⟩, by rw [j_s]⟩
      show pv σ3 (b + 5) = wds _ _ (i + 1)
      unfold wds
      rw [if_pos (by simp [q]), v3, ei, hv]
    · rw [if_pos rfl]
      refine ⟨(s, nI (i + 1)), ⟨rfl, ho, ?_⟩, by rw [j_s]⟩
      show pv s (b + 5) = wds _ _ (i + 1)
      unfold wds
      rw [if_neg (by simp [q]), hv]
  · rintro n ⟨s, l⟩ ⟨rfl, ho, hv⟩
    simp only at ho hv
    have of : odv s (b + 3) = S_fo (stv σ b) := odv_out ho (by omega)
    obtain ⟨σ3, a3, o3, v3⟩ := s_settleFocus (σ := s) (b := b) (by rw [of]; exact hd) (by rw [of]; exact hn)
    show ∃ σ', fX4_loadSlot_64 b (n + 1) s (nI 12) = some σ' ∧ _
    rw [fX4_loadSlot_64, if_pos (n_le 12 (m := 12) rfl (by decide)), a3, j_b]
    refine ⟨σ3, rfl, (ho.mo (by omega) (by omega)).tr (o3.mo (by omega) (by omega)), ?_⟩
    rw [stv_fo o3, stv_pl ho, v3, of, hv]
end CS

/-! what the walks take besides the words: links among nest mates, casts, strings -/
def nestL : List (String × Nat × MethodName × String) := [(RX0, 19, yX8_at, "DockLayout"), (RX0, 27, yX8_put, "DockLayout"), (RX0, 38, yX8_copyRow, "DockLayout"), (RX1, 64, yX8_copyRow, "DockLayout"), (RX1, 72, yX8_at, "DockLayout"), (RX1, 76, yX8_put, "DockLayout"), (RX1, 105, yX8_directionOf, "DockLayout"), (RX2, 46, yX8_at, "DockLayout"), (RX2, 73, yX8_directionOf, "DockLayout"), (RX2, 126, yX8_put, "DockLayout"), (RX3, 31, yX8_put, "DockLayout"), (RX3, 35, yX8_at, "DockLayout"), (RX4, 44, yX8_put, "DockLayout"), (RX4, 58, yX8_at, "DockLayout"), (RX4, 89, yX8_copyRow, "DockLayout"), (RX5, 19, yX8_at, "DockLayout"), (RX5, 23, yX8_put, "DockLayout"), (RX5, 27, yX8_copyRow, "DockLayout")]
def nestF : List (String × Nat × String × String × String) := [(RX2, 95, RX4, "trees", "LDockLayout$Placement;"), (RX2, 123, RX1, "windowX", "[I"), (RX2, 130, RX1, "windowY", "[I"), (RX2, 133, RX1, "windowWidth", "[I"), (RX2, 136, RX1, "windowHeight", "[I"), (RX2, 158, RX4, "minimumWidth", "[I"), (RX2, 159, RX4, "minimumHeight", "[I"), (RX4, 55, RX1, "windowWidth", "[I"), (RX4, 62, RX1, "windowHeight", "[I"), (RX6, 29, RX4, "trees", "LDockLayout$Placement;"), (RX8, 77, RX4, "trees", "LDockLayout$Placement;"), (RX8, 86, RX4, "focusOrder", "LDockLayout$Order;"), (RX8, 102, RX4, "existing", "I"), (RX8, 112, RX4, "minimumWidth", "[I"), (RX8, 120, RX4, "minimumHeight", "[I"), (RX8, 185, RX1, "windowX", "[I"), (RX8, 191, RX1, "floats", "LDockLayout$Order;"), (RX8, 203, RX1, "windowY", "[I"), (RX8, 206, RX1, "windowWidth", "[I"), (RX8, 209, RX1, "windowHeight", "[I"), (RX8, 335, RX6, "trees", "LDockLayout$Placement;"), (RX8, 347, RX7, "written", "LDockLayout$Text;")]
def castL : List (String × String) := [("java/lang/IndexOutOfBoundsException", "java/lang/IndexOutOfBoundsException"), ("java/lang/IllegalArgumentException", "java/lang/IllegalArgumentException"), ("java/lang/IllegalStateException", "java/lang/IllegalStateException")]
def ncL : List (String × String) := [("java/lang/IndexOutOfBoundsException", "java/lang/IllegalArgumentException"), ("java/lang/IndexOutOfBoundsException", "java/lang/IllegalStateException"), ("java/lang/IllegalArgumentException", "java/lang/IndexOutOfBoundsException"), ("java/lang/IllegalArgumentException", "java/lang/IllegalStateException"), ("java/lang/IllegalStateException", "java/lang/IndexOutOfBoundsException"), ("java/lang/IllegalStateException", "java/lang/IllegalArgumentException")]
def declL : List MethodName := [Bundle.initS "java/lang/RuntimeException", Bundle.initS "java/lang/Exception", Bundle.initS Bundle.tN]
def strL : List (String × Nat × String) := [(RX8, 58, "there are 12 panes"), (RX8, 220, "a pane can\'t be docked at itself"), (RX8, 235, "another pane is placed in the main window"), (RX8, 243, "there are 4 floating windows"), (RX8, 254, "the pane is hidden"), (RX8, 265, "the pane is in no group that is shown, or there is no such divider"), (RX8, 280, "the pane is not placed, or its group is the root"), (RX8, 313, "nothing is saved in the slot"), (RX8, 321, "the text has 120 characters"), (RX8, 333, "the text has a fault"), (RX8, 350, "the text would have more than 120 characters"), (RX8, 361, "there is no record"), (RX8, 400, "there is no such pane"), (RX8, 403, "there is no such window"), (RX8, 405, "there is no such slot"), (RX8, 407, "an argument is out of range"), (RX8, 409, "it is the main window"), (RX8, 411, "the pane is not placed")]
/-! BASE A: one world for class and reference: cells by number, each of a shape that stays; a store of ints and longs -/
abbrev Sg : Type := (Nat → Nat → Int32) × (Nat → Nat → Int64)
abbrev Xc : Type := Launch × va_G × (Nat → Nat) × Nat × (Nat → ClassId)
abbrev Xc.l (X : Xc) : Launch := X.1
abbrev Xc.D (X : Xc) : va_G := X.2.1
abbrev Xc.ad (X : Xc) : Nat → Nat := X.2.2.1
abbrev Xc.z (X : Xc) : Nat := X.2.2.2.1
abbrev Xc.ac (X : Xc) : Nat → ClassId := X.2.2.2.2
abbrev Xc.A (X : Xc) : Nat → Prop := fun q => X.z ≤ q
abbrev Kc : Type := Program × Env × Room × State × MethodId × Array Value × List Frame × Method × Code
abbrev Kc.p (K : Kc) : Program := K.1
abbrev Kc.e (K : Kc) : Env := K.2.1
abbrev Kc.R (K : Kc) : Room := K.2.2.1
abbrev Kc.s (K : Kc) : State := K.2.2.2.1
abbrev Kc.m (K : Kc) : MethodId := K.2.2.2.2.1
abbrev Kc.args (K : Kc) : Array Value := K.2.2.2.2.2.1
abbrev Kc.below (K : Kc) : List Frame := K.2.2.2.2.2.2.1
abbrev Kc.meth (K : Kc) : Method := K.2.2.2.2.2.2.2.1
abbrev Kc.c (K : Kc) : Code := K.2.2.2.2.2.2.2.2
abbrev classes : List vw_C := [(RX0, TX0, 2), (RX1, TX1, 14), (RX2, TX2, 11), (RX3, TX3, 6), (RX4, TX4, 7), (RX5, TX5, 2), (RX6, TX6, 4), (RX7, TX7, 1), (RX8, TX8, 8), (RX9, TX9, 27)]
def tysX (X : Xc) : List (ClassId × FieldType) := [(X.ac 0, .int), (X.ac 1, .boolean), (X.ac 2, .long), (X.ac 3, .object "DockLayout$Placement"), (X.ac 4, .object "DockLayout$State")]
/-- a field: 0 an int, 1 a long, r + 2 the cell r -/
def fv (X : Xc) (j x : Nat) (f : Nat → Int32) (g : Nat → Int64) : Value := match x with
  | 0 => .int (f j)
  | 1 => .long (g j)
  | r + 2 => .ref (X.ad r)
def fvs (X : Xc) (f : Nat → Int32) (g : Nat → Int64) : Nat → List Nat → List Value
  | _, [] => []
  | j, x :: t => fv X j x f g :: fvs X f g (j + 1) t
def cellE (X : Xc) (q : Nat × List Nat) (f : Nat → Int32) (g : Nat → Int64) : va_E := match q.1 with
  | 0 => .inl (X.ac 0, (q.2.headD 0, .inl f))
  | 1 => .inl (X.ac 1, (q.2.headD 0, .inl f))
  | 2 => .inl (X.ac 2, (q.2.headD 0, .inr (.inl g)))
  | 3 => .inl (X.ac 3, (q.2.length, .inr (.inr (.inr (.inr (fun j => (q.2[j]?).map X.ad))))))
  | 4 => .inl (X.ac 4, (q.2.length, .inr (.inr (.inr (.inr (fun j => (q.2[j]?).map X.ad))))))
  | n + 5 => .inr (n, fvs X f g 0 q.2)
def wl (X : Xc) (SH : List (Nat × List Nat)) (σ : Sg) : va_W := (List.range SH.length).map (fun k => (X.ad k, cellE X ((SH[k]?).getD (0, [])) (σ.1 k) (σ.2 k)))
theorem wl_get {X : Xc} {SH : List (Nat × List Nat)} {σ : Sg} {k : Nat} {q : Nat × List Nat} (h : SH[k]? = some q) : (wl X SH σ)[k]? = some (X.ad k, cellE X q (σ.1 k) (σ.2 k)) := by
  have hk : k < SH.length := (List.getElem?_eq_some_iff.mp h).1
  have e : SH[k] = q := by
    have := List.getElem?_eq_getElem hk
    rw [h] at this
    exact (Option.some.inj this).symm
  simp [wl, hk, e]
theorem wl_of {X : Xc} {SH : List (Nat × List Nat)} {σ : Sg} {k : Nat} {q : Nat × va_E} (h : (wl X SH σ)[k]? = some q) : k < SH.length ∧ q.1 = X.ad k := by
  have hk : k < SH.length := by
    have h1 := (List.getElem?_eq_some_iff.mp h).1
    simpa [wl] using h1
  simp [wl, hk] at h
  exact ⟨hk, by rw [← h]⟩
/-- the store with one int put -/
def su (σ : Sg) (k j : Nat) (v : Int32) : Sg := (fun k' => if k' = k then upd (σ.1 k) j v else σ.1 k', σ.2)
def sul (σ : Sg) (k j : Nat) (v : Int64) : Sg := (σ.1, fun k' => if k' = k then vp_updL (σ.2 k) j v else σ.2 k')
/-- the store with a row put -/
def sur (σ : Sg) (k : Nat) (f : Nat → Int32) : Sg := (fun k' => if k' = k then f else σ.1 k', σ.2)
theorem wl_set {X : Xc} {SH : List (Nat × List Nat)} {σ σ' : Sg} {k : Nat} {q : Nat × List Nat} (h : SH[k]? = some q) (h1 : ∀ k', k' ≠ k → σ'.1 k' = σ.1 k' ∧ σ'.2 k' = σ.2 k') : (wl X SH σ).set k (X.ad k, cellE X q (σ'.1 k) (σ'.2 k)) = wl X SH σ' := by
  have hk : k < SH.length := (List.getElem?_eq_some_iff.mp h).1
  refine List.ext_getElem? (fun i => ?_)
  rw [List.getElem?_set]
  by_cases e : k = i
  · subst e
    rw [wl_get (σ := σ') h]
    simp [wl, hk]
  · simp only [e, if_false]
    by_cases hi : i < SH.length
    · obtain ⟨q2, hq2⟩ : ∃ q2, SH[i]? = some q2 := ⟨_, List.getElem?_eq_getElem hi⟩
      rw [wl_get hq2, wl_get hq2, (h1 i (fun e2 => e e2.symm)).1, (h1 i (fun e2 => e e2.symm)).2]
    · simp [wl, hi]
theorem wl_su {X : Xc} {SH : List (Nat × List Nat)} {σ : Sg} {k : Nat} {q : Nat × List Nat} (h : SH[k]? = some q) (f : Nat → Int32) : (wl X SH σ).set k (X.ad k, cellE X q f (σ.2 k)) = wl X SH (sur σ k f) := by
  have e := wl_set (X := X) (σ := σ) (σ' := sur σ k f) h (fun k' hk' => by simp [sur, hk'])
  simpa [sur] using e
theorem wl_sul {X : Xc} {SH : List (Nat × List Nat)} {σ : Sg} {k : Nat} {q : Nat × List Nat} (h : SH[k]? = some q) (g : Nat → Int64) : (wl X SH σ).set k (X.ad k, cellE X q (σ.1 k) g) = wl X SH (σ.1, fun k' => if k' = k then g else σ.2 k') := by
  have e := wl_set (X := X) (σ := σ) (σ' := (σ.1, fun k' => if k' = k then g else σ.2 k')) h (fun k' hk' => by simp [hk'])
  simpa using e
theorem fvs_get {X : Xc} {f : Nat → Int32} {g : Nat → Int64} : ∀ (fl : List Nat) (o j x : Nat), fl[j]? = some x → (fvs X f g o fl)[j]? = some (fv X (o + j) x f g)
  | [], _, _, _, h => by simp at h
  | y :: t, o, 0, x, h => by
    simp at h
    subst h
    rfl
  | y :: t, o, j + 1, x, h => by
    have h2 : t[j]? = some x := by simpa using h
    show (fvs X f g (o + 1) t)[j]? = _
    rw [fvs_get t (o + 1) j x h2, show o + 1 + j = o + (j + 1) by omega]
theorem fvs_len {X : Xc} {f : Nat → Int32} {g : Nat → Int64} : ∀ (fl : List Nat) (o : Nat), (fvs X f g o fl).length = fl.length
  | [], _ => rfl
  | _ :: t, o => by simp [fvs, fvs_len t (o + 1)]
theorem fv_upd {X : Xc} {f : Nat → Int32} {g : Nat → Int64} {j k x : Nat} {v : Int32} (h : j ≠ k) : fv X j x (upd f k v) g = fv X j x f g := by
  unfold fv
  split
  · simp [upd, h]
  · rfl
  · rfl
theorem fv_updL {X : Xc} {f : Nat → Int32} {g : Nat → Int64} {j k x : Nat} {v : Int64} (h : j ≠ k) : fv X j x f (vp_updL g k v) = fv X j x f g := by
  unfold fv
  split
  · rfl
  · simp [vp_updL, h]
  · rfl
theorem fvs_out {X : Xc} {f : Nat → Int32} {g : Nat → Int64} {k : Nat} {v : Int32} : ∀ (fl : List Nat) (o : Nat), k < o → fvs X (upd f k v) g o fl = fvs X f g o fl
  | [], _, _ => rfl
  | x :: t, o, h => by
    show fv X o x (upd f k v) g :: fvs X (upd f k v) g (o + 1) t = _
    rw [fv_upd (by omega), fvs_out t (o + 1) (by omega)]
    rfl
theorem fvs_outL {X : Xc} {f : Nat → Int32} {g : Nat → Int64} {k : Nat} {v : Int64} : ∀ (fl : List Nat) (o : Nat), k < o → fvs X f (vp_updL g k v) o fl = fvs X f g o fl
  | [], _, _ => rfl
  | x :: t, o, h => by
    show fv X o x f (vp_updL g k v) :: fvs X f (vp_updL g k v) (o + 1) t = _
    rw [fv_updL (by omega), fvs_outL t (o + 1) (by omega)]
    rfl
theorem fvs_set {X : Xc} {f : Nat → Int32} {g : Nat → Int64} {v : Int32} : ∀ (fl : List Nat) (o j : Nat), fl[j]? = some 0 → (fvs X f g o fl).set j (.int v) = fvs X (upd f (o + j) v) g o fl
  | [], _, _, h => by simp at h
  | y :: t, o, 0, h => by
    simp at h
    subst h
    show Value.int v :: fvs X f g (o + 1) t = fv X o 0 (upd f o v) g :: fvs X (upd f o v) g (o + 1) t
    rw [fvs_out t (o + 1) (by omega)]
    simp [fv, upd]
  | y :: t, o, j + 1, h => by
    have h2 : t[j]? = some 0 := by simpa using h
    show fv X o y f g :: (fvs X f g (o + 1) t).set j (.int v) = fv X o y (upd f (o + (j + 1)) v) g :: fvs X (upd f (o + (j + 1)) v) g (o + 1) t
    rw [fvs_set t (o + 1) j h2, fv_upd (by omega), show o + 1 + j = o + (j + 1) by omega]
theorem fvs_setL {X : Xc} {f : Nat → Int32} {g : Nat → Int64} {v : Int64} : ∀ (fl : List Nat) (o j : Nat), fl[j]? = some 1 → (fvs X f g o fl).set j (.long v) = fvs X f (vp_updL g (o + j) v) o fl
  | [], _, _, h => by simp at h
  | y :: t, o, 0, h => by
    simp at h
    subst h
    show Value.long v :: fvs X f g (o + 1) t = fv X o 1 f (vp_updL g o v) :: fvs X f (vp_updL g o v) (o + 1) t
    rw [fvs_outL t (o + 1) (by omega)]
    simp [fv, vp_updL]
  | y :: t, o, j + 1, h => by
    have h2 : t[j]? = some 1 := by simpa using h
    show fv X o y f g :: (fvs X f g (o + 1) t).set j (.long v) = fv X o y f (vp_updL g (o + (j + 1)) v) :: fvs X f (vp_updL g (o + (j + 1)) v) (o + 1) t
    rw [fvs_setL t (o + 1) j h2, fv_updL (by omega), show o + 1 + j = o + (j + 1) by omega]
/-- addresses: apart, and ours -/
def OkX (X : Xc) (n : Nat) : Prop := (∀ i j, i < n → j < n → X.ad i = X.ad j → i = j) ∧ ∀ i, i < n → X.z ≤ X.ad i
theorem OkX.D {X : Xc} {SH : List (Nat × List Nat)} (h : OkX X SH.length) (σ : Sg) : va_D X.A (wl X SH σ) := by
  refine ⟨fun i j p q hp hq e => ?_, fun k q hk => ?_⟩
  · obtain ⟨h1, e1⟩ := wl_of hp
    obtain ⟨h2, e2⟩ := wl_of hq
    exact h.1 i j h1 h2 (by rw [← e1, ← e2]; exact e)
  · obtain ⟨h1, e1⟩ := wl_of hk
    show X.z ≤ q.1
    rw [e1]
    exact h.2 k h1
/-! THE CELLS: class 0 .. 461, reference 462 .. 475, the law's row 476 -/
def shOr (b : Nat) : List (Nat × List Nat) := [(5, [b + 1 + 2, 0]), (0, [12])]
def shPlA (b : Nat) : List (Nat × List Nat) := [(6, [b + 1 + 2, b + 2 + 2, b + 3 + 2, b + 4 + 2, b + 5 + 2, b + 6 + 2, b + 8 + 2, b + 9 + 2, b + 10 + 2, b + 11 + 2, b + 12 + 2, b + 13 + 2, b + 14 + 2, b + 15 + 2]), (0, [5]), (0, [5]), (0, [5]), (0, [5]), (0, [5])]
def shPl (b : Nat) : List (Nat × List Nat) := shPlA b ++ (shOr (b + 6) ++ [(0, [23]), (0, [23]), (0, [23]), (0, [23]), (0, [23]), (0, [12]), (0, [12]), (0, [12])])
def shStA (b : Nat) : List (Nat × List Nat) := [(9, [0, b + 1 + 2, b + 2 + 2, b + 3 + 2, b + 5 + 2, b + 21 + 2, 0]), (0, [12]), (0, [12])]
def shSt (b : Nat) : List (Nat × List Nat) := shStA b ++ (shOr (b + 3) ++ (shPl (b + 5) ++ ([(3, [b + 22, b + 38, b + 54])] ++ (shPl (b + 22) ++ (shPl (b + 38) ++ (shPl (b + 54) ++ []))))))
def shSh (b : Nat) : List (Nat × List Nat) := [(8, [b + 1 + 2, b + 2 + 2, b + 3 + 2, b + 4 + 2, b + 5 + 2, 0]), (0, [23]), (0, [23]), (0, [23]), (0, [23]), (0, [23])]
def shPn (b : Nat) : List (Nat × List Nat) := [(7, [b + 1 + 2, b + 2 + 2, b + 3 + 2, b + 4 + 2, b + 5 + 2, b + 6 + 2, b + 7 + 2, b + 8 + 2, 0, b + 9 + 2, b + 10 + 2]), (0, [23]), (0, [23]), (0, [23]), (0, [23]), (0, [23]), (0, [23]), (0, [23]), (0, [23]), (0, [23])] ++ (shSh (b + 10) ++ [])
def shTx (b : Nat) : List (Nat × List Nat) := [(10, [b + 1 + 2, 0]), (0, [120])]
def shRd (b : Nat) : List (Nat × List Nat) := [(11, [b + 1 + 2, b + 3 + 2, 0, 0])] ++ (shTx (b + 1) ++ (shPl (b + 3) ++ []))
def shWr (b : Nat) : List (Nat × List Nat) := [(12, [b + 1 + 2])] ++ (shTx (b + 1) ++ [])
def shMo (b : Nat) : List (Nat × List Nat) := [(14, [b + 1 + 2, b + 2 + 2, 0, 0, b + 3 + 2, 0, b + 4 + 2, b + 5 + 2, b + 6 + 2, b + 7 + 2, b + 8 + 2, b + 9 + 2, 0, 0, 0, 0, 0, b + 10 + 2, b + 11 + 2, 0, 0, 0, 0, b + 12 + 2, b + 13 + 2, 0, 1]), (0, [921]), (0, [4605]), (0, [120]), (0, [24]), (1, [24]), (0, [48]), (0, [96]), (0, [24]), (1, [24]), (0, [130]), (0, [130]), (0, [130]), (0, [400])]
def shDL : List (Nat × List Nat) := [(13, [1 + 2, 71 + 2, 0, 0, 422 + 2, 438 + 2, 440 + 2, 459 + 2])]
def SHP : List (Nat × List Nat) := shDL ++ (shSt 1 ++ ([(4, [72, 142, 212, 282, 352])] ++ (shSt 72 ++ (shSt 142 ++ (shSt 212 ++ (shSt 282 ++ (shSt 352 ++ (shPn 422 ++ (shTx 438 ++ (shRd 440 ++ (shWr 459 ++ (shMo 462 ++ [(2, [1])]))))))))))))
/-- a block of cells of these shapes begins at b -/
def blkOK (sh : List (Nat × List Nat)) (b : Nat) : Prop := ∀ j, j < sh.length → SHP[b + j]? = sh[j]?
theorem blk {sh : List (Nat × List Nat)} {b : Nat} (h : blkOK sh b) (j : Nat) {q : Nat × List Nat} (hq : sh[j]? = some q) : SHP[b + j]? = some q := by
  rw [h j (List.getElem?_eq_some_iff.mp hq).1, hq]
theorem blk_sub {sh : List (Nat × List Nat)} {b : Nat} (pre sh2 post : List (Nat × List Nat)) (o : Nat) (h : blkOK sh b) (hs : sh = pre ++ (sh2 ++ post)) (ho : pre.length = o) : blkOK sh2 (b + o) := by
  subst hs
  subst ho
  intro j hj
  have h1 := h (pre.length + j) (by simp; omega)
  rw [Nat.add_assoc, h1, List.getElem?_append_right (by omega), Nat.add_sub_cancel_left, List.getElem?_append_left hj]
theorem blk_top (pre sh2 post : List (Nat × List Nat)) (o : Nat) (hs : SHP = pre ++ (sh2 ++ post)) (ho : pre.length = o) : blkOK sh2 o := by
  intro j hj
  rw [hs, ← ho, List.getElem?_append_right (by omega), Nat.add_sub_cancel_left, List.getElem?_append_left hj]
abbrev orOK (b : Nat) : Prop := blkOK (shOr b) b
abbrev plOK (b : Nat) : Prop := blkOK (shPl b) b
abbrev stOK (b : Nat) : Prop := blkOK (shSt b) b
abbrev shOK (b : Nat) : Prop := blkOK (shSh b) b
abbrev pnOK (b : Nat) : Prop := blkOK (shPn b) b
abbrev txOK (b : Nat) : Prop := blkOK (shTx b) b
abbrev rdOK (b : Nat) : Prop := blkOK (shRd b) b
abbrev wrOK (b : Nat) : Prop := blkOK (shWr b) b
abbrev moOK (b : Nat) : Prop := blkOK (shMo b) b
abbrev dlOK (b : Nat) : Prop := b = 0
theorem pl_or {b : Nat} (h : plOK b) : orOK (b + 6) := blk_sub (shPlA b) _ _ 6 h rfl rfl
theorem st_or {b : Nat} (h : stOK b) : orOK (b + 3) := blk_sub (shStA b) _ _ 3 h rfl rfl
theorem st_pl {b : Nat} (h : stOK b) : plOK (b + 5) := blk_sub (shStA b ++ shOr (b + 3)) _ _ 5 h rfl rfl
theorem st_sl {b : Nat} (h : stOK b) : SHP[b + 21]? = some (3, [b + 22, b + 38, b + 54]) := blk h 21 rfl
theorem st_p0 {b : Nat} (h : stOK b) : plOK (b + 22) := blk_sub (shStA b ++ shOr (b + 3) ++ shPl (b + 5) ++ [(3, [b + 22, b + 38, b + 54])]) _ _ 22 h rfl rfl
theorem st_p1 {b : Nat} (h : stOK b) : plOK (b + 38) := blk_sub (shStA b ++ shOr (b + 3) ++ shPl (b + 5) ++ [(3, [b + 22, b + 38, b + 54])] ++ shPl (b + 22)) _ _ 38 h rfl rfl
theorem st_p2 {b : Nat} (h : stOK b) : plOK (b + 54) := blk_sub (shStA b ++ shOr (b + 3) ++ shPl (b + 5) ++ [(3, [b + 22, b + 38, b + 54])] ++ shPl (b + 22) ++ shPl (b + 38)) _ _ 54 h rfl rfl
theorem pn_sh {b : Nat} (h : pnOK b) : shOK (b + 10) := blk_sub [(7, [b + 1 + 2, b + 2 + 2, b + 3 + 2, b + 4 + 2, b + 5 + 2, b + 6 + 2, b + 7 + 2, b + 8 + 2, 0, b + 9 + 2, b + 10 + 2]), (0, [23]), (0, [23]), (0, [23]), (0, [23]), (0, [23]), (0, [23]), (0, [23]), (0, [23]), (0, [23])] _ _ 10 h rfl rfl
theorem rd_tx {b : Nat} (h : rdOK b) : txOK (b + 1) := blk_sub [(11, [b + 1 + 2, b + 3 + 2, 0, 0])] _ _ 1 h rfl rfl
theorem rd_pl {b : Nat} (h : rdOK b) : plOK (b + 3) := blk_sub ([(11, [b + 1 + 2, b + 3 + 2, 0, 0])] ++ shTx (b + 1)) _ _ 3 h rfl rfl
theorem wr_tx {b : Nat} (h : wrOK b) : txOK (b + 1) := blk_sub [(12, [b + 1 + 2])] _ _ 1 h rfl rfl
set_option maxRecDepth 100000 in
theorem ok_dl : SHP[0]? = some (13, [1 + 2, 71 + 2, 0, 0, 422 + 2, 438 + 2, 440 + 2, 459 + 2]) := rfl
set_option maxRecDepth 100000 in
theorem ok_now : stOK 1 := blk_top shDL _ _ 1 rfl rfl
set_option maxRecDepth 100000 in
theorem ok_recs : SHP[71]? = some (4, [72, 142, 212, 282, 352]) := rfl
set_option maxRecDepth 100000 in
theorem ok_r0 : stOK 72 := blk_top (shDL ++ shSt 1 ++ [(4, [72, 142, 212, 282, 352])]) _ _ 72 rfl rfl
set_option maxRecDepth 100000 in
theorem ok_r1 : stOK 142 := blk_top (shDL ++ shSt 1 ++ [(4, [72, 142, 212, 282, 352])] ++ shSt 72) _ _ 142 rfl rfl
set_option maxRecDepth 100000 in
theorem ok_r2 : stOK 212 := blk_top (shDL ++ shSt 1 ++ [(4, [72, 142, 212, 282, 352])] ++ shSt 72 ++ shSt 142) _ _ 212 rfl rfl
set_option maxRecDepth 100000 in
theorem ok_r3 : stOK 282 := blk_top (shDL ++ shSt 1 ++ [(4, [72, 142, 212, 282, 352])] ++ shSt 72 ++ shSt 142 ++ shSt 212) _ _ 282 rfl rfl
set_option maxRecDepth 100000 in
theorem ok_r4 : stOK 352 := blk_top (shDL ++ shSt 1 ++ [(4, [72, 142, 212, 282, 352])] ++ shSt 72 ++ shSt 142 ++ shSt 212 ++ shSt 282) _ _ 352 rfl rfl
set_option maxRecDepth 100000 in
theorem ok_pn : pnOK 422 := blk_top (shDL ++ shSt 1 ++ [(4, [72, 142, 212, 282, 352])] ++ shSt 72 ++ shSt 142 ++ shSt 212 ++ shSt 282 ++ shSt 352) _ _ 422 rfl rfl
set_option maxRecDepth 100000 in
theorem ok_tx : txOK 438 := blk_top (shDL ++ shSt 1 ++ [(4, [72, 142, 212, 282, 352])] ++ shSt 72 ++ shSt 142 ++ shSt 212 ++ shSt 282 ++ shSt 352 ++ shPn 422) _ _ 438 rfl rfl
set_option maxRecDepth 100000 in
theorem ok_rd : rdOK 440 := blk_top (shDL ++ shSt 1 ++ [(4, [72, 142, 212, 282, 352])] ++ shSt 72 ++ shSt 142 ++ shSt 212 ++ shSt 282 ++ shSt 352 ++ shPn 422 ++ shTx 438) _ _ 440 rfl rfl
set_option maxRecDepth 100000 in
theorem ok_wr : wrOK 459 := blk_top (shDL ++ shSt 1 ++ [(4, [72, 142, 212, 282, 352])] ++ shSt 72 ++ shSt 142 ++ shSt 212 ++ shSt 282 ++ shSt 352 ++ shPn 422 ++ shTx 438 ++ shRd 440) _ _ 459 rfl rfl
set_option maxRecDepth 100000 in
theorem ok_mo : moOK 462 := blk_top (shDL ++ shSt 1 ++ [(4, [72, 142, 212, 282, 352])] ++ shSt 72 ++ shSt 142 ++ shSt 212 ++ shSt 282 ++ shSt 352 ++ shPn 422 ++ shTx 438 ++ shRd 440 ++ shWr 459) _ _ 462 rfl rfl
set_option maxRecDepth 100000 in
theorem ok_out : SHP[476]? = some (2, [1]) := rfl
set_option maxRecDepth 100000 in
theorem SHP_len : SHP.length = 477 := rfl
theorem recs_ok : ∀ r ∈ [72, 142, 212, 282, 352], stOK r := by
  intro r h
  simp at h
  rcases h with rfl | rfl | rfl | rfl | rfl
  · exact ok_r0
  · exact ok_r1
  · exact ok_r2
  · exact ok_r3
  · exact ok_r4
theorem slots_ok {b : Nat} (h : stOK b) : ∀ r ∈ [b + 22, b + 38, b + 54], plOK r := by
  intro r hr
  simp at hr
  rcases hr with rfl | rfl | rfl
  · exact st_p0 h
  · exact st_p1 h
  · exact st_p2 h

/-! BASE B: what holds in a method, and the walk with the store told: GO Q M: if M is some r, the machine comes to Q r -/
def XK (t : State) : Prop := (∀ q ∈ nestL, va_Nw (.methodLinkNest q.1 q.2.1 q.2.2.1 q.2.2.2) t) ∧ (∀ q ∈ castL, va_Nw (.castable q.1 q.2) t) ∧ (∀ q ∈ ncL, va_Nc q.1 q.2 t) ∧ (∀ q ∈ strL, ∃ a, vk_R q.1 q.2.1 q.2.2 a t) ∧ (∀ q ∈ nestF, va_Nw (.fieldLinkNest q.1 q.2.1 q.2.2.1 q.2.2.2.1 q.2.2.2.2 "DockLayout") t) ∧ ∀ q ∈ declL, va_Nw (.declares q) t
theorem XK.warm {s U : State} (hW : s.WarmedH U.vm) (h : XK s) : XK U :=
  ⟨fun q hq => va_Nw.warmM hW (h.1 q hq), fun q hq => va_Nw.warmC hW (h.2.1 q hq), fun q hq => (h.2.2.1 q hq).moved hW.alike, fun q hq => by
    obtain ⟨a, ha⟩ := h.2.2.2.1 q hq
    exact ⟨a, vk_R.warm hW ha⟩, fun q hq => va_Nw.warmF hW (h.2.2.2.2.1 q hq), fun q hq => va_Nw.warmD hW (h.2.2.2.2.2 q hq)⟩
theorem XK.same {s U : State} (hv : s.vm = U.vm) (h : XK s) : XK U :=
  ⟨fun q hq => va_Nw.same rfl hv (h.1 q hq), fun q hq => va_Nw.same rfl hv (h.2.1 q hq), fun q hq => (h.2.2.1 q hq).moved (by rw [hv]; exact Vm.Alike.refl _), fun q hq => by
    obtain ⟨a, ha⟩ := h.2.2.2.1 q hq
    exact ⟨a, vk_R.same hv.symm ha⟩, fun q hq => va_Nw.same rfl hv (h.2.2.2.2.1 q hq), fun q hq => va_Nw.same rfl hv (h.2.2.2.2.2 q hq)⟩
abbrev wX (X : Xc) (σ : Sg) : va_W := wl X SHP σ
def PW (X : Xc) (σ : Sg) (U : State) : Prop := X.z ≤ U.heap.size ∧ OkX X SHP.length ∧ va_P X.D classes (wX X σ) U.heap ∧ va_K X.D classes (tysX X) U ∧ XK U ∧ vx_Zq Bundle.tN "UNASSIGNED_STACK" Bundle.steD X.A U U.heap ∧ vx_Zq Bundle.tN "SUPPRESSED_SENTINEL" Bundle.listD X.A U U.heap
def MC (X : Xc) (K : Kc) (cc : ByteArray) (nL : Nat) (own : String) (rm : Room) : Prop :=
  (K.p.tables.exec = Jvm.exec ∧ K.c.code = cc ∧ K.c.maxLocals = nL ∧ K.s.vm.findClass own = some K.m.cls ∧ ∀ w ∈ wsL_law, w.before K.args K.s = true) ∧
  va_K X.D classes (tysX X) K.s ∧ OkX X SHP.length ∧ X.z ≤ K.s.heap.size ∧ K.meth.locks = false ∧ K.R = rm ∧ XK K.s ∧
  vx_Zq Bundle.tN "UNASSIGNED_STACK" Bundle.steD X.A K.s K.s.heap ∧ vx_Zq Bundle.tN "SUPPRESSED_SENTINEL" Bundle.listD X.A K.s K.s.heap
def lvo (ls : Array Slot) (nL : Nat) (lo : List (Option Value)) : Prop := ls.size = nL ∧ lv_wf ls ∧ ∀ (i : Nat) (v : Value), lo[i]? = some (some v) → ls[i]? = some (.val v)
def lop : Nat → List (Option Value) → List (Nat × Value)
  | _, [] => []
  | i, some v :: t => (i, v) :: lop (i + 1) t
  | i, none :: t => lop (i + 1) t
theorem lop_in : ∀ (lo : List (Option Value)) (o : Nat) (q : Nat × Value), q ∈ lop o lo ↔ ∃ i, q.1 = o + i ∧ lo[i]? = some (some q.2)
  | [], _, _ => by simp [lop]
  | some v :: t, o, q => by
    show q ∈ (o, v) :: lop (o + 1) t ↔ _
    rw [List.mem_cons, lop_in t (o + 1) q]
    constructor
    · rintro (rfl | ⟨i, h1, h2⟩)
      · exact ⟨0, rfl, rfl⟩
      · exact ⟨i + 1, by omega, by simpa using h2⟩
    · rintro ⟨i, h1, h2⟩
      cases i with
      | zero =>
        simp at h2
        exact Or.inl (Prod.ext (by simpa using h1) h2.symm)
      | succ i => exact Or.inr ⟨i, by omega, by simpa using h2⟩
  | none :: t, o, q => by
    show q ∈ lop (o + 1) t ↔ _
    rw [lop_in t (o + 1) q]
    constructor
    · rintro ⟨i, h1, h2⟩
      exact ⟨i + 1, by omega, by simpa using h2⟩
    · rintro ⟨i, h1, h2⟩
      cases i with
      | zero => simp at h2
      | succ i => exact ⟨i, by omega, by simpa using h2⟩
theorem lvo.has {ls : Array Slot} {nL : Nat} {lo : List (Option Value)} (h : lvo ls nL lo) : lv_has ls nL (lop 0 lo) := ⟨h.1, h.2.1, fun q hq => by
  obtain ⟨i, h1, h2⟩ := (lop_in lo 0 q).mp hq
  rw [h1, Nat.zero_add]
  exact h.2.2 i q.2 h2⟩
/-- a slot may be written over: the one below it holds no long -/
def lfree (lo : List (Option Value)) (i : Nat) : Bool := match i with
  | 0 => true
  | j + 1 => match lo[j]? with
    | some (some v) => !(v.category == 2)
    | _ => true
theorem lvo.set {ls : Array Slot} {nL i : Nat} {v : Value} {lo : List (Option Value)} (hf : lfree lo i = true) (h : lv_has ls nL ((i, v) :: (lop 0 lo).filter (fun q => !(q.1 == i) && !(q.1 + 1 == i && q.2.category == 2)))) : lvo ls nL (lo.set i (some v)) := by
  refine ⟨h.1, h.2.1, fun j w hj => ?_⟩
  rw [List.getElem?_set] at hj
  by_cases e : i = j
  · subst e
    by_cases hl : i < lo.length
    · simp [hl] at hj
      subst hj
      exact h.2.2 (i, v) List.mem_cons_self
    · simp [hl] at hj
  · simp only [e, if_false] at hj
    refine h.2.2 (j, w) (List.mem_cons_of_mem _ (List.mem_filter.mpr ⟨(lop_in lo 0 _).mpr ⟨j, (Nat.zero_add j).symm, hj⟩, ?_⟩))
    by_cases e2 : j + 1 = i
    · subst e2
      simp only [lfree, hj] at hf
      simp at hf ⊢
      exact hf
    · have e3 : ¬ j = i := fun q => e q.symm
      simp [e2, e3]
theorem lvo.setL {ls : Array Slot} {nL i : Nat} {v : Value} {lo : List (Option Value)} (hf : lfree lo i = true) (h : lv_has ls nL ((i, v) :: (lop 0 lo).filter (fun q => !(q.1 == i) && (!(q.1 == i + 1) && !(q.1 + 1 == i && q.2.category == 2))))) : lvo ls nL ((lo.set i (some v)).set (i + 1) none) := by
  refine ⟨h.1, h.2.1, fun j w hj => ?_⟩
  rw [List.getElem?_set] at hj
  by_cases e0 : i + 1 = j
  · subst e0
    by_cases hl : i + 1 < (lo.set i (some v)).length
    · rw [if_pos rfl, if_pos hl] at hj
      simp at hj
    · rw [if_pos rfl, if_neg hl] at hj
      simp at hj
  · rw [if_neg e0, List.getElem?_set] at hj
    by_cases e : i = j
    · subst e
      by_cases hl : i < lo.length
      · simp [hl] at hj
        subst hj
        exact h.2.2 (i, v) List.mem_cons_self
      · simp [hl] at hj
    · simp only [e, if_false] at hj
      refine h.2.2 (j, w) (List.mem_cons_of_mem _ (List.mem_filter.mpr ⟨(lop_in lo 0 _).mpr ⟨j, (Nat.zero_add j).symm, hj⟩, ?_⟩))
      by_cases e2 : j + 1 = i
      · subst e2
        simp only [lfree, hj] at hf
        simp at hf ⊢
        exact ⟨by omega, hf⟩
      · have e3 : ¬ j = i := fun q => e q.symm
        have e4 : ¬ j = i + 1 := fun q => e0 q.symm
        simp [e2, e3, e4]
def lo0a : List Value → List (Option Value)
  | [] => []
  | v :: t => if v.category = 2 then some v :: none :: lo0a t else some v :: lo0a t
def lo0 (as : List Value) (n : Nat) : List (Option Value) := lo0a as ++ List.replicate (n - (lo0a as).length) none
theorem lo0a_in : ∀ (as : List Value) (o i : Nat) (v : Value), (lo0a as)[i]? = some (some v) → (o + i, v) ∈ lv_args o as
  | [], _, _, _, h => by simp [lo0a] at h
  | w :: t, o, i, v, h => by
    by_cases e : w.category = 2
    · simp only [lo0a, e, if_true] at h
      match i, h with
      | 0, h =>
        simp at h
        subst h
        exact List.mem_cons_self
      | 1, h => simp at h
      | i + 2, h =>
        have := lo0a_in t (o + 2) i v (by simpa using h)
        show _ ∈ (o, w) :: lv_args (if w.category = 2 then o + 2 else o + 1) t
        rw [if_pos e, show o + (i + 2) = o + 2 + i by omega]
        exact List.mem_cons_of_mem _ this
    · simp only [lo0a, e, if_false] at h
      match i, h with
      | 0, h =>
        simp at h
        subst h
        exact List.mem_cons_self
      | i + 1, h =>
        have := lo0a_in t (o + 1) i v (by simpa using h)
        show _ ∈ (o, w) :: lv_args (if w.category = 2 then o + 2 else o + 1) t
        rw [if_neg e, show o + (i + 1) = o + 1 + i by omega]
        exact List.mem_cons_of_mem _ this
theorem lo0_lvo (as : List Value) (n : Nat) (h : (lg_sl as).length ≤ n) : lvo ((lg_sl as ++ List.replicate (n - (lg_sl as).length) Slot.unset).toArray) n (lo0 as n) := by
  have hl := lv_entry as h
  refine ⟨hl.1, hl.2.1, fun i v hi => hl.2.2 (i, v) ?_⟩
  have hi2 : (lo0a as)[i]? = some (some v) := by
    unfold lo0 at hi
    rw [List.getElem?_append] at hi
    by_cases e : i < (lo0a as).length
    · rwa [if_pos e] at hi
    · rw [if_neg e, List.getElem?_replicate] at hi
      split at hi <;> simp at hi
  have := lo0a_in as 0 i v hi2
  rwa [Nat.zero_add] at this
def GO (X : Xc) (K : Kc) (nL : Nat) {ρ : Type} (Q : ρ → State → Prop) (M : Option ρ) (σ : Sg) (cs ss pc : Nat) (lo : List (Option Value)) (st : List Value) : Prop :=
  ∀ r, M = some r → ∀ (H : Heap) (locs : List Loc) (ls : Array Slot), va_P X.D classes (wX X σ) H → va_S X.A K.s.heap H locs → lvo ls nL lo → W K.p X.l K.e K.R K.s K.m K.args K.below K.meth K.c H locs cs ss (Q r) (F0 K.m pc ls st)
/-- an int that is an index of a row of n -/
abbrev ck (i : Int32) (n : Nat) : Prop := ¬ (i < 0 ∨ n ≤ i.toNatClampNeg)
def b2i (b : Bool) : Int32 := if b then 1 else 0
theorem b2i_n (b : Bool) : narrow .boolean (.int (b2i b)) = .int (b2i b) := by cases b <;> decide
theorem b2i_0 {b : Bool} : b2i b = 0 ↔ b = false := by cases b <;> decide
section G
variable {X : Xc} {K : Kc} {cc : ByteArray} {nL : Nat} {own : String} {rm : Room} {ρ : Type} {Q : ρ → State → Prop} {M M1 M2 : Option ρ} {σ : Sg} {cs ss pc : Nat} {lo lo' : List (Option Value)} {st : List Value}
theorem MC.x (C : MC X K cc nL own rm) : K.p.tables.exec = Jvm.exec := C.1.1
theorem MC.b (C : MC X K cc nL own rm) : K.c.code = cc := C.1.2.1
theorem MC.ml (C : MC X K cc nL own rm) : K.c.maxLocals = nL := C.1.2.2.1
theorem MC.ow (C : MC X K cc nL own rm) : K.s.vm.findClass own = some K.m.cls := C.1.2.2.2.1
theorem MC.ts (C : MC X K cc nL own rm) : ∀ w ∈ wsL_law, w.before K.args K.s = true := C.1.2.2.2.2
theorem MC.kk (C : MC X K cc nL own rm) : va_K X.D classes (tysX X) K.s := C.2.1
theorem MC.ok (C : MC X K cc nL own rm) : OkX X SHP.length := C.2.2.1
theorem MC.z (C : MC X K cc nL own rm) : X.z ≤ K.s.heap.size := C.2.2.2.1
theorem MC.lk (C : MC X K cc nL own rm) : K.meth.locks = false := C.2.2.2.2.1
theorem MC.R (C : MC X K cc nL own rm) : K.R = rm := C.2.2.2.2.2.1
theorem MC.k (C : MC X K cc nL own rm) : XK K.s := C.2.2.2.2.2.2.1
theorem MC.U (C : MC X K cc nL own rm) : vx_Zq Bundle.tN "UNASSIGNED_STACK" Bundle.steD X.A K.s K.s.heap := C.2.2.2.2.2.2.2.1
theorem MC.N (C : MC X K cc nL own rm) : vx_Zq Bundle.tN "SUPPRESSED_SENTINEL" Bundle.listD X.A K.s K.s.heap := C.2.2.2.2.2.2.2.2
theorem MC.A (C : MC X K cc nL own rm) : ∀ q : Nat, K.s.heap.size ≤ q → X.A q := fun q h => Nat.le_trans C.z h
/-- fewer locals -/
theorem g_forget (lo' : List (Option Value)) (h : ∀ (i : Nat) (v : Value), lo'[i]? = some (some v) → lo[i]? = some (some v)) (k : GO X K nL Q M σ cs ss pc lo' st) : GO X K nL Q M σ cs ss pc lo st :=
  fun r hr H locs ls hP hS hl => k r hr H locs ls hP hS ⟨hl.1, hl.2.1, fun i v hi => hl.2.2 i v (h i v hi)⟩
def lkeep : List Bool → List (Option Value) → List (Option Value)
  | b :: m, v :: t => (if b then v else none) :: lkeep m t
  | _, _ => []
theorem lkeep_in : ∀ (m : List Bool) (lo : List (Option Value)) (i : Nat) (v : Value), (lkeep m lo)[i]? = some (some v) → lo[i]? = some (some v)
  | [], _, _, _, h => by simp [lkeep] at h
  | _ :: _, [], _, _, h => by simp [lkeep] at h
  | b :: m, w :: t, 0, v, h => by
    cases b <;> simp [lkeep] at h
    simp [h]
  | b :: m, w :: t, i + 1, v, h => by
    have h2 : (lkeep m t)[i]? = some (some v) := by simpa [lkeep] using h
    simpa using lkeep_in m t i v h2
theorem g_keep (m : List Bool) (k : GO X K nL Q M σ cs ss pc (lkeep m lo) st) : GO X K nL Q M σ cs ss pc lo st := g_forget _ (lkeep_in m lo) k
theorem g_none {α : Type} {Q : α → State → Prop} : GO X K nL Q (none : Option α) σ cs ss pc lo st := fun r hr => by cases hr
/-- a name for what lies on top -/
def nm {α β : Type} (x : α) (f : α → β) : β := f x
theorem g_nm {x : Int32} {f : Int32 → Option ρ} (k : ∀ y, GO X K nL Q (f y) σ cs ss pc lo (.int y :: st)) : GO X K nL Q (nm x f) σ cs ss pc lo (.int x :: st) := k x
theorem g_nml {x : Int64} {f : Int64 → Option ρ} (k : ∀ y, GO X K nL Q (f y) σ cs ss pc lo (.long y :: st)) : GO X K nL Q (nm x f) σ cs ss pc lo (.long x :: st) := k x

theorem g_iconst {n : Int} {v : Int32} (C : MC X K cc nL own rm) (d : decode cc pc = .ok (.iconst n, 1)) (hv : Int32.ofInt n = v) (k : GO X K nL Q M σ cs ss (pc + 1) lo (.int v :: st)) : GO X K nL Q M σ cs ss pc lo (st) :=
  fun r hr H locs ls hP hS hl => lv_iconst C.x C.b d hv (k r hr H locs ls hP hS hl)
theorem g_bipush {n : Int} {v : Int32} (C : MC X K cc nL own rm) (d : decode cc pc = .ok (.bipush n, 2)) (hv : (Int8.ofInt n).toInt32 = v) (k : GO X K nL Q M σ cs ss (pc + 2) lo (.int v :: st)) : GO X K nL Q M σ cs ss pc lo (st) :=
  fun r hr H locs ls hP hS hl => lv_bipush C.x C.b d hv (k r hr H locs ls hP hS hl)
theorem g_sipush {n : Int} {v : Int32} (C : MC X K cc nL own rm) (d : decode cc pc = .ok (.sipush n, 3)) (hv : (Int16.ofInt n).toInt32 = v) (k : GO X K nL Q M σ cs ss (pc + 3) lo (.int v :: st)) : GO X K nL Q M σ cs ss pc lo (st) :=
  fun r hr H locs ls hP hS hl => lv_sipush C.x C.b d hv (k r hr H locs ls hP hS hl)
theorem g_lconst {n : Fin 2} {v : Int64} (C : MC X K cc nL own rm) (d : decode cc pc = .ok (.lconst n, 1)) (hv : Int64.ofNat (n : Nat) = v) (k : GO X K nL Q M σ cs ss (pc + 1) lo (.long v :: st)) : GO X K nL Q M σ cs ss pc lo (st) :=
  fun r hr H locs ls hP hS hl => lv_lconst C.x C.b d hv (k r hr H locs ls hP hS hl)
theorem g_iload_n {i : Nat} {x : Int32} {j : Fin 4} (C : MC X K cc nL own rm) (d : decode cc pc = .ok (.iload_n j, 1)) (hj : (j : Nat) = i) (h : lo[i]? = some (some (.int x))) (k : GO X K nL Q M σ cs ss (pc + 1) lo (.int x :: st)) : GO X K nL Q M σ cs ss pc lo st :=
  fun r hr H locs ls hP hS hl => lv_iload_n C.x C.b d hj (hl.2.2 i _ h) (k r hr H locs ls hP hS hl)
theorem g_iload {i : Nat} {x : Int32} (C : MC X K cc nL own rm) (d : decode cc pc = .ok (.iload i, 2)) (h : lo[i]? = some (some (.int x))) (k : GO X K nL Q M σ cs ss (pc + 2) lo (.int x :: st)) : GO X K nL Q M σ cs ss pc lo st :=
  fun r hr H locs ls hP hS hl => lv_iload C.x C.b d (hl.2.2 i _ h) (k r hr H locs ls hP hS hl)
theorem g_lload_n {i : Nat} {x : Int64} {j : Fin 4} (C : MC X K cc nL own rm) (d : decode cc pc = .ok (.lload_n j, 1)) (hj : (j : Nat) = i) (h : lo[i]? = some (some (.long x))) (k : GO X K nL Q M σ cs ss (pc + 1) lo (.long x :: st)) : GO X K nL Q M σ cs ss pc lo st :=
  fun r hr H locs ls hP hS hl => lv_lload_n C.x C.b d hj (hl.2.2 i _ h) (k r hr H locs ls hP hS hl)
theorem g_lload {i : Nat} {x : Int64} (C : MC X K cc nL own rm) (d : decode cc pc = .ok (.lload i, 2)) (h : lo[i]? = some (some (.long x))) (k : GO X K nL Q M σ cs ss (pc + 2) lo (.long x :: st)) : GO X K nL Q M σ cs ss pc lo st :=
  fun r hr H locs ls hP hS hl => lv_lload C.x C.b d (hl.2.2 i _ h) (k r hr H locs ls hP hS hl)
theorem g_aload_n {i x : Nat} {j : Fin 4} (C : MC X K cc nL own rm) (d : decode cc pc = .ok (.aload_n j, 1)) (hj : (j : Nat) = i) (h : lo[i]? = some (some (.ref x))) (k : GO X K nL Q M σ cs ss (pc + 1) lo (.ref x :: st)) : GO X K nL Q M σ cs ss pc lo st :=
  fun r hr H locs ls hP hS hl => lv_aload_n C.x C.b d hj (hl.2.2 i _ h) (k r hr H locs ls hP hS hl)
theorem g_aload {i x : Nat} (C : MC X K cc nL own rm) (d : decode cc pc = .ok (.aload i, 2)) (h : lo[i]? = some (some (.ref x))) (k : GO X K nL Q M σ cs ss (pc + 2) lo (.ref x :: st)) : GO X K nL Q M σ cs ss pc lo st :=
  fun r hr H locs ls hP hS hl => lv_aload C.x C.b d (hl.2.2 i _ h) (k r hr H locs ls hP hS hl)
theorem g_istore_n {i : Nat} {x : Int32} {j : Fin 4} (C : MC X K cc nL own rm) (d : decode cc pc = .ok (.istore_n j, 1)) (hj : (j : Nat) = i) (hn : i < nL) (hf : lfree lo i = true) (k : GO X K nL Q M σ cs ss (pc + 1) (lo.set i (some (.int x))) st) : GO X K nL Q M σ cs ss pc lo (.int x :: st) :=
  fun r hr H locs ls hP hS hl => lv_istore_n C.x C.b d hj hl.has hn rfl (fun ls hl => k r hr H locs ls hP hS (lvo.set hf hl))
theorem g_istore {i : Nat} {x : Int32} (C : MC X K cc nL own rm) (d : decode cc pc = .ok (.istore i, 2)) (hn : i < nL) (hf : lfree lo i = true) (k : GO X K nL Q M σ cs ss (pc + 2) (lo.set i (some (.int x))) st) : GO X K nL Q M σ cs ss pc lo (.int x :: st) :=
  fun r hr H locs ls hP hS hl => lv_istore C.x C.b d hl.has hn rfl (fun ls hl => k r hr H locs ls hP hS (lvo.set hf hl))
theorem g_astore_n {i : Nat} {x : Nat} {j : Fin 4} (C : MC X K cc nL own rm) (d : decode cc pc = .ok (.astore_n j, 1)) (hj : (j : Nat) = i) (hn : i < nL) (hf : lfree lo i = true) (k : GO X K nL Q M σ cs ss (pc + 1) (lo.set i (some (.ref x))) st) : GO X K nL Q M σ cs ss pc lo (.ref x :: st) :=
  fun r hr H locs ls hP hS hl => lv_astore_n C.x C.b d hj hl.has hn rfl (fun ls hl => k r hr H locs ls hP hS (lvo.set hf hl))
theorem g_astore {i : Nat} {x : Nat} (C : MC X K cc nL own rm) (d : decode cc pc = .ok (.astore i, 2)) (hn : i < nL) (hf : lfree lo i = true) (k : GO X K nL Q M σ cs ss (pc + 2) (lo.set i (some (.ref x))) st) : GO X K nL Q M σ cs ss pc lo (.ref x :: st) :=
  fun r hr H locs ls hP hS hl => lv_astore C.x C.b d hl.has hn rfl (fun ls hl => k r hr H locs ls hP hS (lvo.set hf hl))
theorem g_iinc {i : Nat} {n : Int} {x v : Int32} (C : MC X K cc nL own rm) (d : decode cc pc = .ok (.iinc i n, 3)) (h : lo[i]? = some (some (.int x))) (hv : x + Int32.ofInt n = v) (hn : i < nL) (hf : lfree lo i = true) (k : GO X K nL Q M σ cs ss (pc + 3) (lo.set i (some (.int v))) st) : GO X K nL Q M σ cs ss pc lo st :=
  fun r hr H locs ls hP hS hl => by
    obtain ⟨z, hz⟩ := List.getElem?_of_mem ((lop_in lo 0 (i, .int x)).mpr ⟨i, (Nat.zero_add i).symm, h⟩)
    exact lv_iinc C.x C.b d hl.has hz hv hn rfl (fun ls hl => k r hr H locs ls hP hS (lvo.set hf hl))
theorem g_iadd {x y : Int32} (C : MC X K cc nL own rm) (d : decode cc pc = .ok (.iadd, 1)) (k : GO X K nL Q M σ cs ss (pc + 1) lo (.int (x + y) :: st)) : GO X K nL Q M σ cs ss pc lo (.int y :: .int x :: st) :=
  fun r hr H locs ls hP hS hl => lv_iadd C.x C.b d (k r hr H locs ls hP hS hl)
theorem g_isub {x y : Int32} (C : MC X K cc nL own rm) (d : decode cc pc = .ok (.isub, 1)) (k : GO X K nL Q M σ cs ss (pc + 1) lo (.int (x - y) :: st)) : GO X K nL Q M σ cs ss pc lo (.int y :: .int x :: st) :=
  fun r hr H locs ls hP hS hl => lv_isub C.x C.b d (k r hr H locs ls hP hS hl)
theorem g_imul {x y : Int32} (C : MC X K cc nL own rm) (d : decode cc pc = .ok (.imul, 1)) (k : GO X K nL Q M σ cs ss (pc + 1) lo (.int (x * y) :: st)) : GO X K nL Q M σ cs ss pc lo (.int y :: .int x :: st) :=
  fun r hr H locs ls hP hS hl => lv_imul C.x C.b d (k r hr H locs ls hP hS hl)
theorem g_iand {x y : Int32} (C : MC X K cc nL own rm) (d : decode cc pc = .ok (.iand, 1)) (k : GO X K nL Q M σ cs ss (pc + 1) lo (.int (x &&& y) :: st)) : GO X K nL Q M σ cs ss pc lo (.int y :: .int x :: st) :=
  fun r hr H locs ls hP hS hl => lv_iand C.x C.b d (k r hr H locs ls hP hS hl)
theorem g_ior {x y : Int32} (C : MC X K cc nL own rm) (d : decode cc pc = .ok (.ior, 1)) (k : GO X K nL Q M σ cs ss (pc + 1) lo (.int (x ||| y) :: st)) : GO X K nL Q M σ cs ss pc lo (.int y :: .int x :: st) :=
  fun r hr H locs ls hP hS hl => lv_ior C.x C.b d (k r hr H locs ls hP hS hl)
theorem g_ixor {x y : Int32} (C : MC X K cc nL own rm) (d : decode cc pc = .ok (.ixor, 1)) (k : GO X K nL Q M σ cs ss (pc + 1) lo (.int (x ^^^ y) :: st)) : GO X K nL Q M σ cs ss pc lo (.int y :: .int x :: st) :=
  fun r hr H locs ls hP hS hl => lv_ixor C.x C.b d (k r hr H locs ls hP hS hl)
theorem g_ladd {x y : Int64} (C : MC X K cc nL own rm) (d : decode cc pc = .ok (.ladd, 1)) (k : GO X K nL Q M σ cs ss (pc + 1) lo (.long (x + y) :: st)) : GO X K nL Q M σ cs ss pc lo (.long y :: .long x :: st) :=
  fun r hr H locs ls hP hS hl => lv_ladd C.x C.b d (k r hr H locs ls hP hS hl)
theorem g_lsub {x y : Int64} (C : MC X K cc nL own rm) (d : decode cc pc = .ok (.lsub, 1)) (k : GO X K nL Q M σ cs ss (pc + 1) lo (.long (x - y) :: st)) : GO X K nL Q M σ cs ss pc lo (.long y :: .long x :: st) :=
  fun r hr H locs ls hP hS hl => lv_lsub C.x C.b d (k r hr H locs ls hP hS hl)
theorem g_lmul {x y : Int64} (C : MC X K cc nL own rm) (d : decode cc pc = .ok (.lmul, 1)) (k : GO X K nL Q M σ cs ss (pc + 1) lo (.long (x * y) :: st)) : GO X K nL Q M σ cs ss pc lo (.long y :: .long x :: st) :=
  fun r hr H locs ls hP hS hl => lv_lmul C.x C.b d (k r hr H locs ls hP hS hl)
theorem g_ineg {x : Int32} (C : MC X K cc nL own rm) (d : decode cc pc = .ok (.ineg, 1)) (k : GO X K nL Q M σ cs ss (pc + 1) lo (.int (-x) :: st)) : GO X K nL Q M σ cs ss pc lo (.int x :: st) :=
  fun r hr H locs ls hP hS hl => lv_ineg C.x C.b d (k r hr H locs ls hP hS hl)
theorem g_idiv {x y : Int32} (C : MC X K cc nL own rm) (d : decode cc pc = .ok (.idiv, 1)) (k : GO X K nL Q M σ cs ss (pc + 1) lo (.int (x / y) :: st)) : GO X K nL Q (if y = 0 then none else M) σ cs ss pc lo (.int y :: .int x :: st) :=
  fun r hr H locs ls hP hS hl => by
    by_cases e : y = 0
    · rw [if_pos e] at hr; cases hr
    · rw [if_neg e] at hr; exact lv_idiv C.x C.b d e (k r hr H locs ls hP hS hl)
theorem g_irem {x y : Int32} (C : MC X K cc nL own rm) (d : decode cc pc = .ok (.irem, 1)) (k : GO X K nL Q M σ cs ss (pc + 1) lo (.int (x - x / y * y) :: st)) : GO X K nL Q (if y = 0 then none else M) σ cs ss pc lo (.int y :: .int x :: st) :=
  fun r hr H locs ls hP hS hl => by
    by_cases e : y = 0
    · rw [if_pos e] at hr; cases hr
    · rw [if_neg e] at hr; exact lv_irem C.x C.b d e (k r hr H locs ls hP hS hl)
theorem g_ldiv {x y : Int64} (C : MC X K cc nL own rm) (d : decode cc pc = .ok (.ldiv, 1)) (k : GO X K nL Q M σ cs ss (pc + 1) lo (.long (x / y) :: st)) : GO X K nL Q (if y = 0 then none else M) σ cs ss pc lo (.long y :: .long x :: st) :=
  fun r hr H locs ls hP hS hl => by
    by_cases e : y = 0
    · rw [if_pos e] at hr; cases hr
    · rw [if_neg e] at hr; exact lv_ldiv C.x C.b d e (k r hr H locs ls hP hS hl)
theorem g_lrem {x y : Int64} (C : MC X K cc nL own rm) (d : decode cc pc = .ok (.lrem, 1)) (k : GO X K nL Q M σ cs ss (pc + 1) lo (.long (x - x / y * y) :: st)) : GO X K nL Q (if y = 0 then none else M) σ cs ss pc lo (.long y :: .long x :: st) :=
  fun r hr H locs ls hP hS hl => by
    by_cases e : y = 0
    · rw [if_pos e] at hr; cases hr
    · rw [if_neg e] at hr; exact lv_lrem C.x C.b d e (k r hr H locs ls hP hS hl)
theorem g_dup {v : Value} (C : MC X K cc nL own rm) (d : decode cc pc = .ok (.dup, 1)) (h1 : v.category = 1) (k : GO X K nL Q M σ cs ss (pc + 1) lo (v :: v :: st)) : GO X K nL Q M σ cs ss pc lo (v :: st) :=
  fun r hr H locs ls hP hS hl => lv_dup C.x C.b d h1 (k r hr H locs ls hP hS hl)
theorem g_dup2 {v w : Value} (C : MC X K cc nL own rm) (d : decode cc pc = .ok (.dup2, 1)) (h1 : v.category = 1) (h2 : w.category = 1) (k : GO X K nL Q M σ cs ss (pc + 1) lo (v :: w :: v :: w :: st)) : GO X K nL Q M σ cs ss pc lo (v :: w :: st) :=
  fun r hr H locs ls hP hS hl => lv_dup2_11 C.x C.b d h1 h2 (k r hr H locs ls hP hS hl)
theorem g_pop {v : Value} (C : MC X K cc nL own rm) (d : decode cc pc = .ok (.pop, 1)) (h1 : v.category = 1) (k : GO X K nL Q M σ cs ss (pc + 1) lo st) : GO X K nL Q M σ cs ss pc lo (v :: st) :=
  fun r hr H locs ls hP hS hl => lv_pop C.x C.b d h1 (k r hr H locs ls hP hS hl)
theorem g_pop2 {v : Value} (C : MC X K cc nL own rm) (d : decode cc pc = .ok (.pop2, 1)) (h1 : v.category = 2) (k : GO X K nL Q M σ cs ss (pc + 1) lo st) : GO X K nL Q M σ cs ss pc lo (v :: st) :=
  fun r hr H locs ls hP hS hl => lv_pop2_2 C.x C.b d h1 (k r hr H locs ls hP hS hl)
theorem g_i2l {x : Int32} (C : MC X K cc nL own rm) (d : decode cc pc = .ok (.i2l, 1)) (k : GO X K nL Q M σ cs ss (pc + 1) lo (.long x.toInt64 :: st)) : GO X K nL Q M σ cs ss pc lo (.int x :: st) :=
  fun r hr H locs ls hP hS hl => lv_i2l C.x C.b d rfl (k r hr H locs ls hP hS hl)
theorem g_l2i {x : Int64} (C : MC X K cc nL own rm) (d : decode cc pc = .ok (.l2i, 1)) (k : GO X K nL Q M σ cs ss (pc + 1) lo (.int x.toInt32 :: st)) : GO X K nL Q M σ cs ss pc lo (.long x :: st) :=
  fun r hr H locs ls hP hS hl => lv_l2i C.x C.b d rfl (k r hr H locs ls hP hS hl)
theorem g_goto {off : Int} {tgt : Nat} (C : MC X K cc nL own rm) (d : decode cc pc = .ok (.goto off, 3)) (ht : (pc : Int) + off = (tgt : Int)) (k : GO X K nL Q M σ cs ss tgt lo st) : GO X K nL Q M σ cs ss pc lo st :=
  fun r hr H locs ls hP hS hl => lv_goto C.x C.b d ht (k r hr H locs ls hP hS hl)
theorem g_icmp_eq {x y : Int32} {off : Int} {tgt : Nat} (C : MC X K cc nL own rm) (d : decode cc pc = .ok (.if_icmp .eq off, 3)) (ht : (pc : Int) + off = (tgt : Int)) (kt : GO X K nL Q M1 σ cs ss tgt lo st) (kf : GO X K nL Q M2 σ cs ss (pc + 3) lo st) : GO X K nL Q (if x = y then M1 else M2) σ cs ss pc lo (.int y :: .int x :: st) :=
  fun r hr H locs ls hP hS hl => lv_icmp_eq C.x C.b d ht (fun c => kt r (by rw [if_pos c] at hr; exact hr) H locs ls hP hS hl) (fun c => kf r (by rw [if_neg c] at hr; exact hr) H locs ls hP hS hl)
theorem g_if_eq {x : Int32} {off : Int} {tgt : Nat} (C : MC X K cc nL own rm) (d : decode cc pc = .ok (.ifCond .eq off, 3)) (ht : (pc : Int) + off = (tgt : Int)) (kt : GO X K nL Q M1 σ cs ss tgt lo st) (kf : GO X K nL Q M2 σ cs ss (pc + 3) lo st) : GO X K nL Q (if x = 0 then M1 else M2) σ cs ss pc lo (.int x :: st) :=
  fun r hr H locs ls hP hS hl => lv_if_eq C.x C.b d ht (fun c => kt r (by rw [if_pos c] at hr; exact hr) H locs ls hP hS hl) (fun c => kf r (by rw [if_neg c] at hr; exact hr) H locs ls hP hS hl)
theorem g_icmp_lt {x y : Int32} {off : Int} {tgt : Nat} (C : MC X K cc nL own rm) (d : decode cc pc = .ok (.if_icmp .lt off, 3)) (ht : (pc : Int) + off = (tgt : Int)) (kt : GO X K nL Q M1 σ cs ss tgt lo st) (kf : GO X K nL Q M2 σ cs ss (pc + 3) lo st) : GO X K nL Q (if x < y then M1 else M2) σ cs ss pc lo (.int y :: .int x :: st) :=
  fun r hr H locs ls hP hS hl => lv_icmp_lt C.x C.b d ht (fun c => kt r (by rw [if_pos c] at hr; exact hr) H locs ls hP hS hl) (fun c => kf r (by rw [if_neg c] at hr; exact hr) H locs ls hP hS hl)
theorem g_if_lt {x : Int32} {off : Int} {tgt : Nat} (C : MC X K cc nL own rm) (d : decode cc pc = .ok (.ifCond .lt off, 3)) (ht : (pc : Int) + off = (tgt : Int)) (kt : GO X K nL Q M1 σ cs ss tgt lo st) (kf : GO X K nL Q M2 σ cs ss (pc + 3) lo st) : GO X K nL Q (if x < 0 then M1 else M2) σ cs ss pc lo (.int x :: st) :=
  fun r hr H locs ls hP hS hl => lv_if_lt C.x C.b d ht (fun c => kt r (by rw [if_pos c] at hr; exact hr) H locs ls hP hS hl) (fun c => kf r (by rw [if_neg c] at hr; exact hr) H locs ls hP hS hl)
theorem g_icmp_ge {x y : Int32} {off : Int} {tgt : Nat} (C : MC X K cc nL own rm) (d : decode cc pc = .ok (.if_icmp .ge off, 3)) (ht : (pc : Int) + off = (tgt : Int)) (kt : GO X K nL Q M1 σ cs ss tgt lo st) (kf : GO X K nL Q M2 σ cs ss (pc + 3) lo st) : GO X K nL Q (if y ≤ x then M1 else M2) σ cs ss pc lo (.int y :: .int x :: st) :=
  fun r hr H locs ls hP hS hl => lv_icmp_ge C.x C.b d ht (fun c => kt r (by rw [if_pos c] at hr; exact hr) H locs ls hP hS hl) (fun c => kf r (by rw [if_neg c] at hr; exact hr) H locs ls hP hS hl)
theorem g_if_ge {x : Int32} {off : Int} {tgt : Nat} (C : MC X K cc nL own rm) (d : decode cc pc = .ok (.ifCond .ge off, 3)) (ht : (pc : Int) + off = (tgt : Int)) (kt : GO X K nL Q M1 σ cs ss tgt lo st) (kf : GO X K nL Q M2 σ cs ss (pc + 3) lo st) : GO X K nL Q (if 0 ≤ x then M1 else M2) σ cs ss pc lo (.int x :: st) :=
  fun r hr H locs ls hP hS hl => lv_if_ge C.x C.b d ht (fun c => kt r (by rw [if_pos c] at hr; exact hr) H locs ls hP hS hl) (fun c => kf r (by rw [if_neg c] at hr; exact hr) H locs ls hP hS hl)
theorem g_icmp_gt {x y : Int32} {off : Int} {tgt : Nat} (C : MC X K cc nL own rm) (d : decode cc pc = .ok (.if_icmp .gt off, 3)) (ht : (pc : Int) + off = (tgt : Int)) (kt : GO X K nL Q M1 σ cs ss tgt lo st) (kf : GO X K nL Q M2 σ cs ss (pc + 3) lo st) : GO X K nL Q (if y < x then M1 else M2) σ cs ss pc lo (.int y :: .int x :: st) :=
  fun r hr H locs ls hP hS hl => lv_icmp_gt C.x C.b d ht (fun c => kt r (by rw [if_pos c] at hr; exact hr) H locs ls hP hS hl) (fun c => kf r (by rw [if_neg c] at hr; exact hr) H locs ls hP hS hl)
theorem g_if_gt {x : Int32} {off : Int} {tgt : Nat} (C : MC X K cc nL own rm) (d : decode cc pc = .ok (.ifCond .gt off, 3)) (ht : (pc : Int) + off = (tgt : Int)) (kt : GO X K nL Q M1 σ cs ss tgt lo st) (kf : GO X K nL Q M2 σ cs ss (pc + 3) lo st) : GO X K nL Q (if 0 < x then M1 else M2) σ cs ss pc lo (.int x :: st) :=
  fun r hr H locs ls hP hS hl => lv_if_gt C.x C.b d ht (fun c => kt r (by rw [if_pos c] at hr; exact hr) H locs ls hP hS hl) (fun c => kf r (by rw [if_neg c] at hr; exact hr) H locs ls hP hS hl)
theorem g_icmp_le {x y : Int32} {off : Int} {tgt : Nat} (C : MC X K cc nL own rm) (d : decode cc pc = .ok (.if_icmp .le off, 3)) (ht : (pc : Int) + off = (tgt : Int)) (kt : GO X K nL Q M1 σ cs ss tgt lo st) (kf : GO X K nL Q M2 σ cs ss (pc + 3) lo st) : GO X K nL Q (if x ≤ y then M1 else M2) σ cs ss pc lo (.int y :: .int x :: st) :=
  fun r hr H locs ls hP hS hl => lv_icmp_le C.x C.b d ht (fun c => kt r (by rw [if_pos c] at hr; exact hr) H locs ls hP hS hl) (fun c => kf r (by rw [if_neg c] at hr; exact hr) H locs ls hP hS hl)
theorem g_if_le {x : Int32} {off : Int} {tgt : Nat} (C : MC X K cc nL own rm) (d : decode cc pc = .ok (.ifCond .le off, 3)) (ht : (pc : Int) + off = (tgt : Int)) (kt : GO X K nL Q M1 σ cs ss tgt lo st) (kf : GO X K nL Q M2 σ cs ss (pc + 3) lo st) : GO X K nL Q (if x ≤ 0 then M1 else M2) σ cs ss pc lo (.int x :: st) :=
  fun r hr H locs ls hP hS hl => lv_if_le C.x C.b d ht (fun c => kt r (by rw [if_pos c] at hr; exact hr) H locs ls hP hS hl) (fun c => kf r (by rw [if_neg c] at hr; exact hr) H locs ls hP hS hl)
theorem g_icmp_ne {x y : Int32} {off : Int} {tgt : Nat} (C : MC X K cc nL own rm) (d : decode cc pc = .ok (.if_icmp .ne off, 3)) (ht : (pc : Int) + off = (tgt : Int)) (kf : GO X K nL Q M1 σ cs ss (pc + 3) lo st) (kt : GO X K nL Q M2 σ cs ss tgt lo st) : GO X K nL Q (if x = y then M1 else M2) σ cs ss pc lo (.int y :: .int x :: st) :=
  fun r hr H locs ls hP hS hl => lv_icmp_ne C.x C.b d ht (fun c => kt r (by rw [if_neg c] at hr; exact hr) H locs ls hP hS hl) (fun c => kf r (by rw [if_pos c] at hr; exact hr) H locs ls hP hS hl)
theorem g_if_ne {x : Int32} {off : Int} {tgt : Nat} (C : MC X K cc nL own rm) (d : decode cc pc = .ok (.ifCond .ne off, 3)) (ht : (pc : Int) + off = (tgt : Int)) (kf : GO X K nL Q M1 σ cs ss (pc + 3) lo st) (kt : GO X K nL Q M2 σ cs ss tgt lo st) : GO X K nL Q (if x = 0 then M1 else M2) σ cs ss pc lo (.int x :: st) :=
  fun r hr H locs ls hP hS hl => lv_if_ne C.x C.b d ht (fun c => kt r (by rw [if_neg c] at hr; exact hr) H locs ls hP hS hl) (fun c => kf r (by rw [if_pos c] at hr; exact hr) H locs ls hP hS hl)
theorem g_ishl {x y : Int32} (C : MC X K cc nL own rm) (d : decode cc pc = .ok (.ishl, 1)) (k : GO X K nL Q M σ cs ss (pc + 1) lo (.int (x <<< (y &&& 31)) :: st)) : GO X K nL Q M σ cs ss pc lo (.int y :: .int x :: st) :=
  fun r hr H locs ls hP hS hl => lv_ishl C.x C.b d (k r hr H locs ls hP hS hl)
theorem g_ishr {x y : Int32} (C : MC X K cc nL own rm) (d : decode cc pc = .ok (.ishr, 1)) (k : GO X K nL Q M σ cs ss (pc + 1) lo (.int (x >>> (y &&& 31)) :: st)) : GO X K nL Q M σ cs ss pc lo (.int y :: .int x :: st) :=
  fun r hr H locs ls hP hS hl => lv_ishr C.x C.b d (k r hr H locs ls hP hS hl)
theorem g_lstore_n {i : Nat} {x : Int64} {j : Fin 4} (C : MC X K cc nL own rm) (d : decode cc pc = .ok (.lstore_n j, 1)) (hj : (j : Nat) = i) (hn : i + 1 < nL) (hf : lfree lo i = true) (k : GO X K nL Q M σ cs ss (pc + 1) ((lo.set i (some (.long x))).set (i + 1) none) st) : GO X K nL Q M σ cs ss pc lo (.long x :: st) :=
  fun r hr H locs ls hP hS hl => lv_lstore_n C.x C.b d hj hl.has hn rfl (fun ls hl => k r hr H locs ls hP hS (lvo.setL hf hl))
theorem g_lstore {i : Nat} {x : Int64} (C : MC X K cc nL own rm) (d : decode cc pc = .ok (.lstore i, 2)) (hn : i + 1 < nL) (hf : lfree lo i = true) (k : GO X K nL Q M σ cs ss (pc + 2) ((lo.set i (some (.long x))).set (i + 1) none) st) : GO X K nL Q M σ cs ss pc lo (.long x :: st) :=
  fun r hr H locs ls hP hS hl => lv_lstore C.x C.b d hl.has hn rfl (fun ls hl => k r hr H locs ls hP hS (lvo.setL hf hl))
theorem g_ldc {index : Nat} {v : Int32} (C : MC X K cc nL own rm) (hw : Cond.constant own index v ∈ wsL_law) (d : decode cc pc = .ok (.ldc index, 2)) (k : GO X K nL Q M σ cs ss (pc + 2) lo (.int v :: st)) : GO X K nL Q M σ cs ss pc lo st :=
  fun r hr H locs ls hP hS hl => lv_ldc C.x C.b C.ow (C.ts _ hw) d (k r hr H locs ls hP hS hl)
theorem g_ldcw {index : Nat} {v : Int32} (C : MC X K cc nL own rm) (hw : Cond.constant own index v ∈ wsL_law) (d : decode cc pc = .ok (.ldc_w index, 3)) (k : GO X K nL Q M σ cs ss (pc + 3) lo (.int v :: st)) : GO X K nL Q M σ cs ss pc lo st :=
  fun r hr H locs ls hP hS hl => lv_ldcw C.x C.b C.ow (C.ts _ hw) d (k r hr H locs ls hP hS hl)
theorem g_ldc2 {index : Nat} {v : Int64} (C : MC X K cc nL own rm) (hw : Cond.constantLong own index v ∈ wsL_law) (d : decode cc pc = .ok (.ldc2_w index, 3)) (k : GO X K nL Q M σ cs ss (pc + 3) lo (.long v :: st)) : GO X K nL Q M σ cs ss pc lo st :=
  fun r hr H locs ls hP hS hl => lv_ldc2 C.x C.b C.ow (C.ts _ hw) d (k r hr H locs ls hP hS hl)
theorem g_ifb_eq {b : Bool} {off : Int} {tgt : Nat} (C : MC X K cc nL own rm) (d : decode cc pc = .ok (.ifCond .eq off, 3)) (ht : (pc : Int) + off = (tgt : Int)) (kf : GO X K nL Q M1 σ cs ss (pc + 3) lo st) (kt : GO X K nL Q M2 σ cs ss tgt lo st) : GO X K nL Q (if b = true then M1 else M2) σ cs ss pc lo (.int (b2i b) :: st) :=
  fun r hr H locs ls hP hS hl => lv_if_eq C.x C.b d ht (fun c => kt r (by rw [if_neg (by rw [b2i_0.mp c]; decide)] at hr; exact hr) H locs ls hP hS hl) (fun c => kf r (by
    cases b with
    | true => exact hr
    | false => exact absurd rfl c) H locs ls hP hS hl)
theorem g_ifb_ne {b : Bool} {off : Int} {tgt : Nat} (C : MC X K cc nL own rm) (d : decode cc pc = .ok (.ifCond .ne off, 3)) (ht : (pc : Int) + off = (tgt : Int)) (kt : GO X K nL Q M1 σ cs ss tgt lo st) (kf : GO X K nL Q M2 σ cs ss (pc + 3) lo st) : GO X K nL Q (if b = true then M1 else M2) σ cs ss pc lo (.int (b2i b) :: st) :=
  fun r hr H locs ls hP hS hl => lv_if_ne C.x C.b d ht (fun c => kt r (by
    cases b with
    | true => exact hr
    | false => exact absurd rfl c) H locs ls hP hS hl) (fun c => kf r (by
    cases b with
    | true => exact absurd c (by decide)
    | false => exact hr) H locs ls hP hS hl)
end G
/-! BASE C: the store's reads and writes, calls, entry, returns -/
section GC
variable {X : Xc} {K : Kc} {cc : ByteArray} {nL : Nat} {own : String} {rm : Room} {ρ ρ1 : Type} {Q : ρ → State → Prop} {M M1 M2 : Option ρ} {σ : Sg} {cs ss pc : Nat} {lo lo' : List (Option Value)} {st : List Value}
theorem tys0 (X : Xc) : (tysX X)[0]? = some (X.ac 0, .int) := rfl
theorem g_get {b ci N j index x : Nat} {Cn : String} {T : u_T} {fl : List Nat} (C : MC X K cc nL own rm) (hc : classes[ci]? = some (Cn, T, N)) (hin : ∀ w ∈ u_ws Cn T N, w ∈ wsL_law) (hj : j < N) (hw : Cond.fieldLink own index (T j).1 (T j).2.1 (T j).2.2.1 ∈ wsL_law) (hs : SHP[b]? = some (ci + 5, fl)) (hf : fl[j]? = some x) (d : decode cc pc = .ok (.getfield index, 3))
    (k : GO X K nL Q M σ cs ss (pc + 3) lo (fv X j x (σ.1 b) (σ.2 b) :: st)) : GO X K nL Q M σ cs ss pc lo (.ref (X.ad b) :: st) :=
  fun r hr H locs ls hP hS hl => va_get (D := X.D) (ci := ci) (v := fv X j x (σ.1 b) (σ.2 b)) C.x C.b C.ts hin C.ow C.kk hP b (wl_get hs) hc j hj (C.ts _ hw) (fun _ h => h) (by rw [fvs_get _ 0 j x hf, Nat.zero_add]) d (k r hr H locs ls hP hS hl)
theorem g_geti {b ci N j index : Nat} {Cn : String} {T : u_T} {fl : List Nat} (C : MC X K cc nL own rm) (hc : classes[ci]? = some (Cn, T, N)) (hin : ∀ w ∈ u_ws Cn T N, w ∈ wsL_law) (hj : j < N) (hw : Cond.fieldLink own index (T j).1 (T j).2.1 (T j).2.2.1 ∈ wsL_law) (hs : SHP[b]? = some (ci + 5, fl)) (hf : fl[j]? = some 0) (d : decode cc pc = .ok (.getfield index, 3))
    (k : GO X K nL Q M σ cs ss (pc + 3) lo (.int (σ.1 b j) :: st)) : GO X K nL Q M σ cs ss pc lo (.ref (X.ad b) :: st) := g_get C hc hin hj hw hs hf d k
theorem g_getl {b ci N j index : Nat} {Cn : String} {T : u_T} {fl : List Nat} (C : MC X K cc nL own rm) (hc : classes[ci]? = some (Cn, T, N)) (hin : ∀ w ∈ u_ws Cn T N, w ∈ wsL_law) (hj : j < N) (hw : Cond.fieldLink own index (T j).1 (T j).2.1 (T j).2.2.1 ∈ wsL_law) (hs : SHP[b]? = some (ci + 5, fl)) (hf : fl[j]? = some 1) (d : decode cc pc = .ok (.getfield index, 3))
    (k : GO X K nL Q M σ cs ss (pc + 3) lo (.long (σ.2 b j) :: st)) : GO X K nL Q M σ cs ss pc lo (.ref (X.ad b) :: st) := g_get C hc hin hj hw hs hf d k
theorem g_getr {b ci N j index : Nat} {Cn : String} {T : u_T} {fl : List Nat} (r0 : Nat) (C : MC X K cc nL own rm) (hc : classes[ci]? = some (Cn, T, N)) (hin : ∀ w ∈ u_ws Cn T N, w ∈ wsL_law) (hj : j < N) (hw : Cond.fieldLink own index (T j).1 (T j).2.1 (T j).2.2.1 ∈ wsL_law) (hs : SHP[b]? = some (ci + 5, fl)) (hf : fl[j]? = some (r0 + 2)) (d : decode cc pc = .ok (.getfield index, 3))
    (k : GO X K nL Q M σ cs ss (pc + 3) lo (.ref (X.ad r0) :: st)) : GO X K nL Q M σ cs ss pc lo (.ref (X.ad b) :: st) := g_get C hc hin hj hw hs hf d k
theorem g_getN {b ci N j index x : Nat} {Cn : String} {T : u_T} {fl : List Nat} (C : MC X K cc nL own rm) (hc : classes[ci]? = some (Cn, T, N)) (hin : ∀ w ∈ u_ws Cn T N, w ∈ wsL_law) (hj : j < N) (hw : (own, index, (T j).1, (T j).2.1, (T j).2.2.1) ∈ nestF) (hs : SHP[b]? = some (ci + 5, fl)) (hf : fl[j]? = some x) (d : decode cc pc = .ok (.getfield index, 3))
    (k : GO X K nL Q M σ cs ss (pc + 3) lo (fv X j x (σ.1 b) (σ.2 b) :: st)) : GO X K nL Q M σ cs ss pc lo (.ref (X.ad b) :: st) :=
  fun r hr H locs ls hP hS hl => va_getN (D := X.D) (ci := ci) (v := fv X j x (σ.1 b) (σ.2 b)) C.x C.b C.ts hin C.ow C.kk hP b (wl_get hs) hc j hj ((C.k.2.2.2.2.1 _ hw).use rfl) (fun _ h => h) (by rw [fvs_get _ 0 j x hf, Nat.zero_add]) d (k r hr H locs ls hP hS hl)
theorem g_getNi {b ci N j index : Nat} {Cn : String} {T : u_T} {fl : List Nat} (C : MC X K cc nL own rm) (hc : classes[ci]? = some (Cn, T, N)) (hin : ∀ w ∈ u_ws Cn T N, w ∈ wsL_law) (hj : j < N) (hw : (own, index, (T j).1, (T j).2.1, (T j).2.2.1) ∈ nestF) (hs : SHP[b]? = some (ci + 5, fl)) (hf : fl[j]? = some 0) (d : decode cc pc = .ok (.getfield index, 3))
    (k : GO X K nL Q M σ cs ss (pc + 3) lo (.int (σ.1 b j) :: st)) : GO X K nL Q M σ cs ss pc lo (.ref (X.ad b) :: st) := g_getN C hc hin hj hw hs hf d k
theorem g_getNr {b ci N j index : Nat} {Cn : String} {T : u_T} {fl : List Nat} (r0 : Nat) (C : MC X K cc nL own rm) (hc : classes[ci]? = some (Cn, T, N)) (hin : ∀ w ∈ u_ws Cn T N, w ∈ wsL_law) (hj : j < N) (hw : (own, index, (T j).1, (T j).2.1, (T j).2.2.1) ∈ nestF) (hs : SHP[b]? = some (ci + 5, fl)) (hf : fl[j]? = some (r0 + 2)) (d : decode cc pc = .ok (.getfield index, 3))
    (k : GO X K nL Q M σ cs ss (pc + 3) lo (.ref (X.ad r0) :: st)) : GO X K nL Q M σ cs ss pc lo (.ref (X.ad b) :: st) := g_getN C hc hin hj hw hs hf d k
theorem g_puti {b ci N j index : Nat} {Cn : String} {T : u_T} {fl : List Nat} {v : Int32} {ty : Nat → FieldType} (C : MC X K cc nL own rm) (hc : classes[ci]? = some (Cn, T, N)) (hin : ∀ w ∈ u_ws Cn T N, w ∈ wsL_law) (hty : ∀ k, k < N → parseFieldDescriptor (T k).2.2.1 = some (ty k)) (hnm : ∀ a, a < N → ∀ b, b < N → a ≠ b → (T a).2.1 ≠ (T b).2.1) (hj : j < N) (hw : Cond.fieldLink own index (T j).1 (T j).2.1 (T j).2.2.1 ∈ wsL_law) (hs : SHP[b]? = some (ci + 5, fl)) (hf : fl[j]? = some 0) (hfin : (T j).2.2.2 = false) (hd : ty j = .int) (d : decode cc pc = .ok (.putfield index, 3))
    (k : GO X K nL Q M (su σ b j v) cs ss (pc + 3) lo st) : GO X K nL Q M σ cs ss pc lo (.int v :: .ref (X.ad b) :: st) :=
  fun r hr H locs ls hP hS hl => va_put (D := X.D) (ci := ci) (v := .int v) (ty := .int) C.x C.b C.ts hin ty hty hnm C.ow C.kk hP (C.ok.D σ) hS b (wl_get hs) hc j hj (C.ts _ hw) (fun _ h => h) hfin (by rw [hty j hj, hd]) (vp_nar_int v) rfl (by rw [fvs_len]; exact (List.getElem?_eq_some_iff.mp hf).1) d (fun H1 locs1 hP1 _ hS1 => k r hr H1 locs1 ls (by
    have e : (wX X σ).set b (X.ad b, .inr (ci, (fvs X (σ.1 b) (σ.2 b) 0 fl).set j (.int v))) = wX X (su σ b j v) := by
      rw [fvs_set fl 0 j hf, Nat.zero_add]
      exact wl_su hs _
    rw [← e]; exact hP1) hS1 hl)
theorem g_putl {b ci N j index : Nat} {Cn : String} {T : u_T} {fl : List Nat} {v : Int64} {ty : Nat → FieldType} (C : MC X K cc nL own rm) (hc : classes[ci]? = some (Cn, T, N)) (hin : ∀ w ∈ u_ws Cn T N, w ∈ wsL_law) (hty : ∀ k, k < N → parseFieldDescriptor (T k).2.2.1 = some (ty k)) (hnm : ∀ a, a < N → ∀ b, b < N → a ≠ b → (T a).2.1 ≠ (T b).2.1) (hj : j < N) (hw : Cond.fieldLink own index (T j).1 (T j).2.1 (T j).2.2.1 ∈ wsL_law) (hs : SHP[b]? = some (ci + 5, fl)) (hf : fl[j]? = some 1) (hfin : (T j).2.2.2 = false) (hd : ty j = .long) (d : decode cc pc = .ok (.putfield index, 3))
    (k : GO X K nL Q M (sul σ b j v) cs ss (pc + 3) lo st) : GO X K nL Q M σ cs ss pc lo (.long v :: .ref (X.ad b) :: st) :=
  fun r hr H locs ls hP hS hl => va_put (D := X.D) (ci := ci) (v := .long v) (ty := .long) C.x C.b C.ts hin ty hty hnm C.ow C.kk hP (C.ok.D σ) hS b (wl_get hs) hc j hj (C.ts _ hw) (fun _ h => h) hfin (by rw [hty j hj, hd]) rfl rfl (by rw [fvs_len]; exact (List.getElem?_eq_some_iff.mp hf).1) d (fun H1 locs1 hP1 _ hS1 => k r hr H1 locs1 ls (by
    have e : (wX X σ).set b (X.ad b, .inr (ci, (fvs X (σ.1 b) (σ.2 b) 0 fl).set j (.long v))) = wX X (sul σ b j v) := by
      rw [fvs_setL fl 0 j hf, Nat.zero_add]
      exact wl_sul hs _
    rw [← e]; exact hP1) hS1 hl)
theorem g_iaload {b n : Nat} {i : Int32} (C : MC X K cc nL own rm) (hs : SHP[b]? = some (0, [n])) (d : decode cc pc = .ok (.iaload, 1)) (k : GO X K nL Q M σ cs ss (pc + 1) lo (.int (σ.1 b i.toNatClampNeg) :: st)) : GO X K nL Q (if ck i n then M else none) σ cs ss pc lo (.int i :: .ref (X.ad b) :: st) :=
  fun r hr H locs ls hP hS hl => by
    by_cases e : ck i n
    · rw [if_pos e] at hr
      exact va_iald (D := X.D) (cA := X.ac 0) (n := n) (f := σ.1 b) C.x C.b C.kk hP b 0 (wl_get hs) rfl e d (k r hr H locs ls hP hS hl)
    · rw [if_neg e] at hr; cases hr
theorem g_baload {b n : Nat} {i : Int32} (C : MC X K cc nL own rm) (hs : SHP[b]? = some (1, [n])) (d : decode cc pc = .ok (.baload, 1)) (k : GO X K nL Q M σ cs ss (pc + 1) lo (.int (σ.1 b i.toNatClampNeg) :: st)) : GO X K nL Q (if ck i n then M else none) σ cs ss pc lo (.int i :: .ref (X.ad b) :: st) :=
  fun r hr H locs ls hP hS hl => by
    by_cases e : ck i n
    · rw [if_pos e] at hr
      exact va_zald (D := X.D) (cA := X.ac 1) (n := n) (f := σ.1 b) C.x C.b C.kk hP b 1 (wl_get hs) rfl e d (k r hr H locs ls hP hS hl)
    · rw [if_neg e] at hr; cases hr
theorem g_laload {b n : Nat} {i : Int32} (C : MC X K cc nL own rm) (hs : SHP[b]? = some (2, [n])) (d : decode cc pc = .ok (.laload, 1)) (k : GO X K nL Q M σ cs ss (pc + 1) lo (.long (σ.2 b i.toNatClampNeg) :: st)) : GO X K nL Q (if ck i n then M else none) σ cs ss pc lo (.int i :: .ref (X.ad b) :: st) :=
  fun r hr H locs ls hP hS hl => by
    by_cases e : ck i n
    · rw [if_pos e] at hr
      exact va_lald (D := X.D) (cA := X.ac 2) (n := n) (f := σ.2 b) C.x C.b C.kk hP b 2 (wl_get hs) rfl e d (k r hr H locs ls hP hS hl)
    · rw [if_neg e] at hr; cases hr
theorem g_iastore {b n : Nat} {i v : Int32} (C : MC X K cc nL own rm) (hs : SHP[b]? = some (0, [n])) (d : decode cc pc = .ok (.iastore, 1)) (k : GO X K nL Q M (su σ b i.toNatClampNeg v) cs ss (pc + 1) lo st) : GO X K nL Q (if ck i n then M else none) σ cs ss pc lo (.int v :: .int i :: .ref (X.ad b) :: st) :=
  fun r hr H locs ls hP hS hl => by
    by_cases e : ck i n
    · rw [if_pos e] at hr
      refine va_iast (D := X.D) (cA := X.ac 0) (n := n) (f := σ.1 b) C.x C.b C.kk hP (C.ok.D σ) hS b 0 (wl_get hs) rfl e d (fun H1 locs1 hP1 _ hS1 => k r hr H1 locs1 ls ?_ hS1 hl)
      have e : (wX X σ).set b (X.ad b, .inl (X.ac 0, n, .inl (upd (σ.1 b) i.toNatClampNeg v))) = wX X (su σ b i.toNatClampNeg v) := wl_su hs _
      rw [← e]; exact hP1
    · rw [if_neg e] at hr; cases hr
theorem g_bastore {b n : Nat} {i v : Int32} (C : MC X K cc nL own rm) (hs : SHP[b]? = some (1, [n])) (d : decode cc pc = .ok (.bastore, 1)) (k : GO X K nL Q M (su σ b i.toNatClampNeg (vp_nar .boolean v)) cs ss (pc + 1) lo st) : GO X K nL Q (if ck i n then M else none) σ cs ss pc lo (.int v :: .int i :: .ref (X.ad b) :: st) :=
  fun r hr H locs ls hP hS hl => by
    by_cases e : ck i n
    · rw [if_pos e] at hr
      refine va_zast (D := X.D) (cA := X.ac 1) (n := n) (f := σ.1 b) C.x C.b C.kk hP (C.ok.D σ) hS b 1 (wl_get hs) rfl e d (fun H1 locs1 hP1 _ hS1 => k r hr H1 locs1 ls ?_ hS1 hl)
      have e : (wX X σ).set b (X.ad b, .inl (X.ac 1, n, .inl (upd (σ.1 b) i.toNatClampNeg (vp_nar .boolean v)))) = wX X (su σ b i.toNatClampNeg (vp_nar .boolean v)) := wl_su hs _
      rw [← e]; exact hP1
    · rw [if_neg e] at hr; cases hr
theorem g_lastore {b n : Nat} {i : Int32} {v : Int64} (C : MC X K cc nL own rm) (hs : SHP[b]? = some (2, [n])) (d : decode cc pc = .ok (.lastore, 1)) (k : GO X K nL Q M (sul σ b i.toNatClampNeg v) cs ss (pc + 1) lo st) : GO X K nL Q (if ck i n then M else none) σ cs ss pc lo (.long v :: .int i :: .ref (X.ad b) :: st) :=
  fun r hr H locs ls hP hS hl => by
    by_cases e : ck i n
    · rw [if_pos e] at hr
      refine va_last (D := X.D) (cA := X.ac 2) (n := n) (f := σ.2 b) C.x C.b C.kk hP (C.ok.D σ) hS b 2 (wl_get hs) rfl e d (fun H1 locs1 hP1 _ hS1 => k r hr H1 locs1 ls ?_ hS1 hl)
      have e : (wX X σ).set b (X.ad b, .inl (X.ac 2, n, .inr (.inl (vp_updL (σ.2 b) i.toNatClampNeg v)))) = wX X (sul σ b i.toNatClampNeg v) := wl_sul hs _
      rw [← e]; exact hP1
    · rw [if_neg e] at hr; cases hr
theorem g_ialen {b n : Nat} (C : MC X K cc nL own rm) (hs : SHP[b]? = some (0, [n])) (d : decode cc pc = .ok (.arraylength, 1)) (k : GO X K nL Q M σ cs ss (pc + 1) lo (.int (nI n) :: st)) : GO X K nL Q M σ cs ss pc lo (.ref (X.ad b) :: st) :=
  fun r hr H locs ls hP hS hl => va_alen (D := X.D) (cA := X.ac 0) (x := (n, .inl (σ.1 b))) C.x C.b C.kk hP b 0 (wl_get hs) rfl rfl d (k r hr H locs ls hP hS hl)
theorem g_palen {b : Nat} {L : List Nat} (C : MC X K cc nL own rm) (hs : SHP[b]? = some (3, L)) (d : decode cc pc = .ok (.arraylength, 1)) (k : GO X K nL Q M σ cs ss (pc + 1) lo (.int (nI L.length) :: st)) : GO X K nL Q M σ cs ss pc lo (.ref (X.ad b) :: st) :=
  fun r hr H locs ls hP hS hl => va_alen (D := X.D) (cA := X.ac 3) (x := (L.length, .inr (.inr (.inr (.inr (fun j => (L[j]?).map X.ad)))))) C.x C.b C.kk hP b 3 (wl_get hs) rfl rfl d (k r hr H locs ls hP hS hl)
theorem g_salen {b : Nat} {L : List Nat} (C : MC X K cc nL own rm) (hs : SHP[b]? = some (4, L)) (d : decode cc pc = .ok (.arraylength, 1)) (k : GO X K nL Q M σ cs ss (pc + 1) lo (.int (nI L.length) :: st)) : GO X K nL Q M σ cs ss pc lo (.ref (X.ad b) :: st) :=
  fun r hr H locs ls hP hS hl => va_alen (D := X.D) (cA := X.ac 4) (x := (L.length, .inr (.inr (.inr (.inr (fun j => (L[j]?).map X.ad)))))) C.x C.b C.kk hP b 4 (wl_get hs) rfl rfl d (k r hr H locs ls hP hS hl)
/-- the cell that a row of cells names -/
def rget (L : List Nat) (i : Int32) : Nat := L.getD i.toNatClampNeg 0
theorem rget_mem {L : List Nat} {i : Int32} (h : ck i L.length) : rget L i ∈ L := by
  have hlt : i.toNatClampNeg < L.length := Nat.not_le.mp fun q => h (Or.inr q)
  unfold rget
  rw [List.getD_eq_getElem?_getD, List.getElem?_eq_getElem hlt]
  exact List.getElem_mem hlt
theorem rget_at {X : Xc} {L : List Nat} {i : Int32} (h : ck i L.length) : va_rf ((L[i.toNatClampNeg]?).map X.ad) = .ref (X.ad (rget L i)) := by
  have hlt : i.toNatClampNeg < L.length := Nat.not_le.mp fun q => h (Or.inr q)
  unfold rget
  rw [List.getD_eq_getElem?_getD, List.getElem?_eq_getElem hlt]
  rfl
theorem g_paload {b : Nat} {L : List Nat} {i : Int32} (C : MC X K cc nL own rm) (hs : SHP[b]? = some (3, L)) (d : decode cc pc = .ok (.aaload, 1)) (k : rget L i ∈ L → GO X K nL Q M σ cs ss (pc + 1) lo (.ref (X.ad (rget L i)) :: st)) : GO X K nL Q (if ck i L.length then M else none) σ cs ss pc lo (.int i :: .ref (X.ad b) :: st) :=
  fun r hr H locs ls hP hS hl => by
    by_cases e : ck i L.length
    · rw [if_pos e] at hr
      refine va_aldq (D := X.D) (cA := X.ac 3) (C := "DockLayout$Placement") (n := L.length) (f := fun j => (L[j]?).map X.ad) C.x C.b C.kk hP b 3 (wl_get hs) rfl e d ?_
      have := k (rget_mem e) r hr H locs ls hP hS hl
      rw [rget_at e]; exact this
    · rw [if_neg e] at hr; cases hr
theorem g_saload {b : Nat} {L : List Nat} {i : Int32} (C : MC X K cc nL own rm) (hs : SHP[b]? = some (4, L)) (d : decode cc pc = .ok (.aaload, 1)) (k : rget L i ∈ L → GO X K nL Q M σ cs ss (pc + 1) lo (.ref (X.ad (rget L i)) :: st)) : GO X K nL Q (if ck i L.length then M else none) σ cs ss pc lo (.int i :: .ref (X.ad b) :: st) :=
  fun r hr H locs ls hP hS hl => by
    by_cases e : ck i L.length
    · rw [if_pos e] at hr
      refine va_aldq (D := X.D) (cA := X.ac 4) (C := "DockLayout$State") (n := L.length) (f := fun j => (L[j]?).map X.ad) C.x C.b C.kk hP b 4 (wl_get hs) rfl e d ?_
      have := k (rget_mem e) r hr H locs ls hP hS hl
      rw [rget_at e]; exact this
    · rw [if_neg e] at hr; cases hr
theorem g_lcmp {x y : Int64} (C : MC X K cc nL own rm) (d : decode cc pc = .ok (.lcmp, 1)) (k : GO X K nL Q M σ cs ss (pc + 1) lo (.int (lg_cmp x y) :: st)) : GO X K nL Q M σ cs ss pc lo (.long y :: .long x :: st) :=
  fun r hr H locs ls hP hS hl => W.lcmp C.x C.b d (k r hr H locs ls hP hS hl)
/-! returns: MQ's post out of the world -/
abbrev Qi (X : Xc) (r : Int32) (σ : Sg) : Array Value → State → Outcome → State → Prop := va_Qi (fun r' (_ : Unit) => r' = r) (fun _ t => va_P X.D classes (wX X σ) t.heap) X.A
abbrev Ql (X : Xc) (r : Int64) (σ : Sg) : Array Value → State → Outcome → State → Prop := va_Ql (fun r' (_ : Unit) => r' = r) (fun _ t => va_P X.D classes (wX X σ) t.heap) X.A
abbrev Qv (X : Xc) (σ : Sg) : Array Value → State → Outcome → State → Prop := va_Qv (fun (_ : Unit) => True) (fun _ t => va_P X.D classes (wX X σ) t.heap) X.A
abbrev Qf (X : Xc) (r : Nat) (σ : Sg) : Array Value → State → Outcome → State → Prop := va_Qr (fun (_ : Unit) => True) (fun _ a t => a = X.ad r ∧ va_P X.D classes (wX X σ) t.heap) X.A
abbrev MQi (X : Xc) (K : Kc) (r : Int32) (σ : Sg) : State → Prop := MQ K.below (Qi X r σ) K.args K.s 0 0 X.A
abbrev MQl (X : Xc) (K : Kc) (r : Int64) (σ : Sg) : State → Prop := MQ K.below (Ql X r σ) K.args K.s 0 0 X.A
abbrev MQv (X : Xc) (K : Kc) (σ : Sg) : State → Prop := MQ K.below (Qv X σ) K.args K.s 0 0 X.A
abbrev MQf (X : Xc) (K : Kc) (r : Nat) (σ : Sg) : State → Prop := MQ K.below (Qf X r σ) K.args K.s 0 0 X.A
theorem g_iret {ei : ρ → Int32} {es : ρ → Sg} {r0 : ρ} (C : MC X K cc nL own rm) (hr : K.meth.sig.returnType = some .int) (d : decode cc pc = .ok (.ireturn, 1)) (h2 : es r0 = σ) : GO X K nL (fun r => MQi X K (ei r) (es r)) (some r0) σ 0 0 pc lo [.int (ei r0)] :=
  fun r h H locs ls hP hS hl => by
    cases h
    exact W.iret C.x C.b hr (fun t ht hW => ⟨⟨ei r0, (), rfl, rfl, by subst h2; rw [← ht] at hP; exact hP⟩, hS.F ht⟩) hS.2.2 d C.lk
theorem g_zret {eb : ρ → Bool} {es : ρ → Sg} {r0 : ρ} (C : MC X K cc nL own rm) (hr : K.meth.sig.returnType = some .boolean) (d : decode cc pc = .ok (.ireturn, 1)) (h2 : es r0 = σ) : GO X K nL (fun r => MQi X K (b2i (eb r)) (es r)) (some r0) σ 0 0 pc lo [.int (b2i (eb r0))] :=
  fun r h H locs ls hP hS hl => by
    cases h
    exact W.zret C.x C.b hr (b2i_n _) (fun t ht hW => ⟨⟨b2i (eb r0), (), rfl, rfl, by subst h2; rw [← ht] at hP; exact hP⟩, hS.F ht⟩) hS.2.2 d C.lk
theorem g_lret {ei : ρ → Int64} {es : ρ → Sg} {r0 : ρ} (C : MC X K cc nL own rm) (hr : K.meth.sig.returnType = some .long) (d : decode cc pc = .ok (.lreturn, 1)) (h2 : es r0 = σ) : GO X K nL (fun r => MQl X K (ei r) (es r)) (some r0) σ 0 0 pc lo [.long (ei r0)] :=
  fun r h H locs ls hP hS hl => by
    cases h
    exact W.lret C.x C.b hr (fun t ht hW => ⟨⟨ei r0, (), rfl, rfl, by subst h2; rw [← ht] at hP; exact hP⟩, hS.F ht⟩) hS.2.2 d C.lk
theorem g_vret {es : ρ → Sg} {r0 : ρ} (C : MC X K cc nL own rm) (hr : K.meth.sig.returnType = none) (d : decode cc pc = .ok (.return_, 1)) (h2 : es r0 = σ) : GO X K nL (fun r => MQv X K (es r)) (some r0) σ 0 0 pc lo [] :=
  fun r h H locs ls hP hS hl => by
    cases h
    exact W.vret C.x C.b hr (fun t ht hW => ⟨⟨(), rfl, trivial, by subst h2; rw [← ht] at hP; exact hP⟩, hS.F ht⟩) hS.2.2 d C.lk
theorem g_aret {ei : ρ → Nat} {es : ρ → Sg} {r0 : ρ} {n : String} (C : MC X K cc nL own rm) (hr : K.meth.sig.returnType = some (.object n)) (d : decode cc pc = .ok (.areturn, 1)) (h2 : es r0 = σ) : GO X K nL (fun r => MQf X K (ei r) (es r)) (some r0) σ 0 0 pc lo [.ref (X.ad (ei r0))] :=
  fun r h H locs ls hP hS hl => by
    cases h
    exact W.aret C.x C.b hr (Or.inl ⟨n, rfl⟩) (Or.inr ⟨_, rfl⟩) (fun t ht hW => ⟨⟨(), X.ad (ei r0), rfl, trivial, rfl, by subst h2; rw [← ht] at hP; exact hP⟩, hS.F ht⟩) hS.2.2 d C.lk
end GC
section GE
variable {X : Xc} {cc : ByteArray} {own : String} {rm : Room} {ρ : Type} {M : Option ρ} {σ : Sg} {as : List Value}
theorem pw_blind (as : List Value) (σ : Sg) : FrameBlind (va_Pc as (PW X σ)) := fun a U g mk q => by
  obtain ⟨q0, q1, q2, q3, q4, q5, q6, q7⟩ := q
  exact ⟨q0, q1, q2, q3, va_K.moved (u := U) (U := U.calling g mk a) (Vm.Alike.refl U.vm) q4, XK.same rfl q5, vx_Zq.moved (u := U) (U := U.calling g mk a) (Vm.Alike.refl U.vm) q6, vx_Zq.moved (u := U) (U := U.calling g mk a) (Vm.Alike.refl U.vm) q7⟩
theorem pw_at {K : Kc} {nL : Nat} {H : Heap} {locs : List Loc} (C : MC X K cc nL own rm) (hP : va_P X.D classes (wX X σ) H) (hS : va_S X.A K.s.heap H locs) (U : State) (hU : U.heap = H) (hW : K.s.WarmedH U.vm) : PW X σ U := by
  have hk : ∀ a : Nat, a < K.s.heap.size → ¬ X.A a → U.heap[a]? = K.s.heap[a]? := fun a h1 h2 => by rw [hU]; exact hS.2.1 a h1 h2
  exact ⟨by rw [hU]; exact Nat.le_trans C.z hS.1, C.ok, by rw [hU]; exact hP, va_K.moved hW.alike C.kk, XK.warm hW C.k, vx_Zq.kept (vx_Zq.moved hW.alike C.U) hk, vx_Zq.kept (vx_Zq.moved hW.alike C.N) hk⟩
/-- a method's entry -/
theorem mt_of {y : MethodName} {maxL : Nat} {ret : Option FieldType} {Qc : ρ → Array Value → State → Outcome → State → Prop} {lo : List (Option Value)} (hy : plainName y.cls = true) (ho : y.cls = own) (hn : (lg_sl as).length ≤ maxL) (hlo : lo0 as maxL = lo)
    (body : ∀ K : Kc, MC X K cc maxL own rm → K.meth.sig.returnType = ret → GO X K maxL (fun r => MQ K.below (Qc r) K.args K.s 0 0 X.A) M σ 0 0 0 lo []) (r : ρ) (hr : M = some r) : Met X.l y (.code y cc maxL ret :: wsL_law) rm (va_Pc as (PW X σ)) (Qc r) 0 0 X.A := by
  refine Met.ofW (cc := cc) (maxL := maxL) (ret := ret) hy rfl ?_
  intro p e s m args below meth c s₁ B hml hv
  obtain ⟨rfl, hz, hok, hP, hK, hXK, hU, hN⟩ := hv
  have C : MC X (p, e, rm, s, m, as.toArray, below, meth, c) cc maxL own rm := ⟨⟨B.exec, B.bytes, hml, by rw [← ho]; exact findClass_of_methodNamed B.named, fun w h => atoms_spec (ws := .code y cc maxL ret :: wsL_law) B.pre w (List.mem_cons_of_mem _ h)⟩, hK, hok, hz, B.notSynchronized, rfl, hXK, hU, hN⟩
  have hl := lo0_lvo as maxL hn
  rw [lg_entry_eq]
  subst hlo
  exact body _ C B.returns r hr s.heap [] _ hP va_S.rf hl
end GE

/-! calls of methods that don't throw -/
section GK
variable {X : Xc} {K : Kc} {cc : ByteArray} {nL : Nat} {own : String} {rm : Room} {ρ ρ1 : Type} {Q : ρ → State → Prop} {σ : Sg} {cs ss pc : Nat} {lo : List (Option Value)} {st : List Value} {y : MethodName} {ccy : ByteArray} {maxLy : Nat} {ret : Option FieldType} {rmy : Room} {As : List Value} {M1 : Option ρ1} {es : ρ1 → Sg} {f : ρ1 → Option ρ} {index n : Nat} {stk : List Value}
abbrev wsM (y : MethodName) (ccy : ByteArray) (maxLy : Nat) (ret : Option FieldType) : List Cond := .code y ccy maxLy ret :: wsL_law
theorem bg_in {w : Cond} (h : w ∈ wsL_law) : w ∈ wsL_law ∧ ((w.onTables && w.keeps) = true ∨ ∃ ty, w = .arrayClass ty) := ⟨h, good_of_word (List.all_eq_true.mp bg_good w h)⟩
theorem gi_M (hc : Cond.code y ccy maxLy ret ∈ wsL_law) : GoodIn wsL_law (wsM y ccy maxLy ret) := fun w h => (List.mem_cons.mp h).elim (fun e => by rw [e]; exact bg_in hc) (fun h => bg_in h)
theorem gi_V {Cn : String} (h1 : Cond.methodLink own index y ∈ wsL_law) (h2 : Cond.instanceMethod y ∈ wsL_law) (h3 : Cond.selects Cn y y ∈ wsL_law) (h4 : Cond.initialized Cn ∈ wsL_law) (hc : Cond.code y ccy maxLy ret ∈ wsL_law) : GoodIn wsL_law (wsV own index Cn y (wsM y ccy maxLy ret)) := by
  intro w h
  rcases List.mem_append.mp h with h | h
  · simp only [List.mem_cons, List.not_mem_nil, or_false] at h
    rcases h with rfl | rfl | rfl | rfl
    · exact bg_in h1
    · exact bg_in h2
    · exact bg_in h3
    · exact bg_in h4
  · exact gi_M hc w h
theorem gi_S (h1 : Cond.methodLink own index y ∈ wsL_law) (h2 : Cond.static y ∈ wsL_law) (h4 : Cond.initialized y.cls ∈ wsL_law) (hc : Cond.code y ccy maxLy ret ∈ wsL_law) : GoodIn wsL_law (va_wsS own index y (wsM y ccy maxLy ret)) := by
  intro w h
  rcases List.mem_append.mp h with h | h
  · simp only [List.mem_cons, List.not_mem_nil, or_false] at h
    rcases h with rfl | rfl | rfl
    · exact bg_in h1
    · exact bg_in h2
    · exact bg_in h4
  · exact gi_M hc w h
/-- the room of a callee fits -/
abbrev fitsR (a b : Room) (maxLy : Nat) : Prop := a.frames + 1 ≤ b.frames ∧ 8 + (maxLy + 11) + a.locals ≤ b.locals ∧ a.cells = 0 ∧ a.slots = 0
theorem recvX {ci N b : Nat} {Cn : String} {T : u_T} {fl : List Nat} {H : Heap} (C : MC X K cc nL own rm) (hP : va_P X.D classes (wX X σ) H) (hs : SHP[b]? = some (ci + 5, fl)) (hcl : classes[ci]? = some (Cn, T, N)) : ∃ cell : Cell, H[X.ad b]? = some cell ∧ cell.vm.isStatics = false ∧ K.s.vm.findClass Cn = some cell.cls :=
  va_recv (q0 := b) C.kk hP hcl (wl_get hs)

theorem g_callVi {ei : ρ1 → Int32} {b ci N : Nat} {Cn : String} {T : u_T} {fl : List Nat} (C : MC X K cc nL own rm) (hM : ∀ r1, M1 = some r1 → Met X.l y (wsM y ccy maxLy ret) rmy (va_Pc (.ref (X.ad b) :: As) (PW X σ)) (Qi X (ei r1) (es r1)) 0 0 X.A) (hs : SHP[b]? = some (ci + 5, fl)) (hcl : classes[ci]? = some (Cn, T, N)) (h1 : Cond.methodLink own index y ∈ wsL_law) (h2 : Cond.instanceMethod y ∈ wsL_law) (h3 : Cond.selects Cn y y ∈ wsL_law) (h4 : Cond.initialized Cn ∈ wsL_law) (h5 : Cond.code y ccy maxLy ret ∈ wsL_law) (hd : y.cls = Cn ∧ y.cls ≠ "java/lang/invoke/MethodHandle" ∧ y.cls ≠ "java/lang/invoke/VarHandle" ∧ (parseMethodDescriptor y.desc).map (fun d => d.parameters.length) = some n) (hR : fitsR rmy rm maxLy) (hcs : cs ≤ rm.cells ∧ ss ≤ rm.slots) (hst : (st.map fun v => v.category).sum ≤ 8) (hn : As.length = n) (hstk : stk = As.reverse ++ .ref (X.ad b) :: st) (d : decode cc pc = .ok (.invokevirtual index, 3))
    (k : ∀ r1, M1 = some r1 → GO X K nL Q (f r1) (es r1) cs ss (pc + 3) lo (.int (ei r1) :: st)) : GO X K nL Q (M1.bind f) σ cs ss pc lo stk := by
  intro r0 hr H locs ls hP hS hl
  obtain ⟨r1, e, hr⟩ := Option.bind_eq_some_iff.mp hr
  subst hstk
  exact va_calli (va_runV (As := As) (rest := st) ⟨C.x, C.b, C.ml, C.ow, C.ts⟩ (hM r1 e) (cwV n C.ts (gi_V h1 h2 h3 h4 h5) rfl hR.2.2.1 hR.2.2.2 hd (by rw [C.R]; exact ⟨hR.1, hR.2.1⟩)) ⟨pw_blind _ σ, recvX C hP hs hcl, fun U hU hW => ⟨rfl, pw_at C hP hS U hU hW⟩⟩ rfl hn hl.1 rfl (lv_room hst) d (by rw [C.R]; exact hcs)) hS (fun q _ h => h) (fun q h => h) (fun r u t H1 locs1 ht hvm hw hB hz hk hS1 => by
      subst hw
      exact k r1 e r0 hr H1 locs1 ls (by rw [← ht]; exact hB) hS1 hl)
theorem g_callVv {b ci N : Nat} {Cn : String} {T : u_T} {fl : List Nat} (C : MC X K cc nL own rm) (hM : ∀ r1, M1 = some r1 → Met X.l y (wsM y ccy maxLy ret) rmy (va_Pc (.ref (X.ad b) :: As) (PW X σ)) (Qv X (es r1)) 0 0 X.A) (hs : SHP[b]? = some (ci + 5, fl)) (hcl : classes[ci]? = some (Cn, T, N)) (h1 : Cond.methodLink own index y ∈ wsL_law) (h2 : Cond.instanceMethod y ∈ wsL_law) (h3 : Cond.selects Cn y y ∈ wsL_law) (h4 : Cond.initialized Cn ∈ wsL_law) (h5 : Cond.code y ccy maxLy ret ∈ wsL_law) (hd : y.cls = Cn ∧ y.cls ≠ "java/lang/invoke/MethodHandle" ∧ y.cls ≠ "java/lang/invoke/VarHandle" ∧ (parseMethodDescriptor y.desc).map (fun d => d.parameters.length) = some n) (hR : fitsR rmy rm maxLy) (hcs : cs ≤ rm.cells ∧ ss ≤ rm.slots) (hst : (st.map fun v => v.category).sum ≤ 8) (hn : As.length = n) (hstk : stk = As.reverse ++ .ref (X.ad b) :: st) (d : decode cc pc = .ok (.invokevirtual index, 3))
    (k : ∀ r1, M1 = some r1 → GO X K nL Q (f r1) (es r1) cs ss (pc + 3) lo (st)) : GO X K nL Q (M1.bind f) σ cs ss pc lo stk := by
  intro r0 hr H locs ls hP hS hl
  obtain ⟨r1, e, hr⟩ := Option.bind_eq_some_iff.mp hr
  subst hstk
  exact va_callv (va_runV (As := As) (rest := st) ⟨C.x, C.b, C.ml, C.ow, C.ts⟩ (hM r1 e) (cwV n C.ts (gi_V h1 h2 h3 h4 h5) rfl hR.2.2.1 hR.2.2.2 hd (by rw [C.R]; exact ⟨hR.1, hR.2.1⟩)) ⟨pw_blind _ σ, recvX C hP hs hcl, fun U hU hW => ⟨rfl, pw_at C hP hS U hU hW⟩⟩ rfl hn hl.1 rfl (lv_room hst) d (by rw [C.R]; exact hcs)) hS (fun q _ h => h) (fun q h => h) (fun u t H1 locs1 ht hvm hw hB hz hk hS1 => k r1 e r0 hr H1 locs1 ls (by rw [← ht]; exact hB) hS1 hl)
theorem g_callVl {ei : ρ1 → Int64} {b ci N : Nat} {Cn : String} {T : u_T} {fl : List Nat} (C : MC X K cc nL own rm) (hM : ∀ r1, M1 = some r1 → Met X.l y (wsM y ccy maxLy ret) rmy (va_Pc (.ref (X.ad b) :: As) (PW X σ)) (Ql X (ei r1) (es r1)) 0 0 X.A) (hs : SHP[b]? = some (ci + 5, fl)) (hcl : classes[ci]? = some (Cn, T, N)) (h1 : Cond.methodLink own index y ∈ wsL_law) (h2 : Cond.instanceMethod y ∈ wsL_law) (h3 : Cond.selects Cn y y ∈ wsL_law) (h4 : Cond.initialized Cn ∈ wsL_law) (h5 : Cond.code y ccy maxLy ret ∈ wsL_law) (hd : y.cls = Cn ∧ y.cls ≠ "java/lang/invoke/MethodHandle" ∧ y.cls ≠ "java/lang/invoke/VarHandle" ∧ (parseMethodDescriptor y.desc).map (fun d => d.parameters.length) = some n) (hR : fitsR rmy rm maxLy) (hcs : cs ≤ rm.cells ∧ ss ≤ rm.slots) (hst : (st.map fun v => v.category).sum ≤ 8) (hn : As.length = n) (hstk : stk = As.reverse ++ .ref (X.ad b) :: st) (d : decode cc pc = .ok (.invokevirtual index, 3))
    (k : ∀ r1, M1 = some r1 → GO X K nL Q (f r1) (es r1) cs ss (pc + 3) lo (.long (ei r1) :: st)) : GO X K nL Q (M1.bind f) σ cs ss pc lo stk := by
  intro r0 hr H locs ls hP hS hl
  obtain ⟨r1, e, hr⟩ := Option.bind_eq_some_iff.mp hr
  subst hstk
  exact va_calll (va_runV (As := As) (rest := st) ⟨C.x, C.b, C.ml, C.ow, C.ts⟩ (hM r1 e) (cwV n C.ts (gi_V h1 h2 h3 h4 h5) rfl hR.2.2.1 hR.2.2.2 hd (by rw [C.R]; exact ⟨hR.1, hR.2.1⟩)) ⟨pw_blind _ σ, recvX C hP hs hcl, fun U hU hW => ⟨rfl, pw_at C hP hS U hU hW⟩⟩ rfl hn hl.1 rfl (lv_room hst) d (by rw [C.R]; exact hcs)) hS (fun q _ h => h) (fun q h => h) (fun r u t H1 locs1 ht hvm hw hB hz hk hS1 => by
      subst hw
      exact k r1 e r0 hr H1 locs1 ls (by rw [← ht]; exact hB) hS1 hl)
theorem g_callVf {ei : ρ1 → Nat} {b ci N : Nat} {Cn : String} {T : u_T} {fl : List Nat} (C : MC X K cc nL own rm) (hM : ∀ r1, M1 = some r1 → Met X.l y (wsM y ccy maxLy ret) rmy (va_Pc (.ref (X.ad b) :: As) (PW X σ)) (Qf X (ei r1) (es r1)) 0 0 X.A) (hs : SHP[b]? = some (ci + 5, fl)) (hcl : classes[ci]? = some (Cn, T, N)) (h1 : Cond.methodLink own index y ∈ wsL_law) (h2 : Cond.instanceMethod y ∈ wsL_law) (h3 : Cond.selects Cn y y ∈ wsL_law) (h4 : Cond.initialized Cn ∈ wsL_law) (h5 : Cond.code y ccy maxLy ret ∈ wsL_law) (hd : y.cls = Cn ∧ y.cls ≠ "java/lang/invoke/MethodHandle" ∧ y.cls ≠ "java/lang/invoke/VarHandle" ∧ (parseMethodDescriptor y.desc).map (fun d => d.parameters.length) = some n) (hR : fitsR rmy rm maxLy) (hcs : cs ≤ rm.cells ∧ ss ≤ rm.slots) (hst : (st.map fun v => v.category).sum ≤ 8) (hn : As.length = n) (hstk : stk = As.reverse ++ .ref (X.ad b) :: st) (d : decode cc pc = .ok (.invokevirtual index, 3))
    (k : ∀ r1, M1 = some r1 → GO X K nL Q (f r1) (es r1) cs ss (pc + 3) lo (.ref (X.ad (ei r1)) :: st)) : GO X K nL Q (M1.bind f) σ cs ss pc lo stk := by
  intro r0 hr H locs ls hP hS hl
  obtain ⟨r1, e, hr⟩ := Option.bind_eq_some_iff.mp hr
  subst hstk
  exact va_callr (va_runV (As := As) (rest := st) ⟨C.x, C.b, C.ml, C.ow, C.ts⟩ (hM r1 e) (cwV n C.ts (gi_V h1 h2 h3 h4 h5) rfl hR.2.2.1 hR.2.2.2 hd (by rw [C.R]; exact ⟨hR.1, hR.2.1⟩)) ⟨pw_blind _ σ, recvX C hP hs hcl, fun U hU hW => ⟨rfl, pw_at C hP hS U hU hW⟩⟩ rfl hn hl.1 rfl (lv_room hst) d (by rw [C.R]; exact hcs)) hS (fun q _ h => h) (fun q h => h) (fun u ra t H1 locs1 ht hvm hw hB hz hk hS1 => by
      obtain ⟨rfl, hB⟩ := hB
      exact k r1 e r0 hr H1 locs1 ls (by rw [← ht]; exact hB) hS1 hl)
theorem g_callSi {ei : ρ1 → Int32} (C : MC X K cc nL own rm) (hM : ∀ r1, M1 = some r1 → Met X.l y (wsM y ccy maxLy ret) rmy (va_Pc (As) (PW X σ)) (Qi X (ei r1) (es r1)) 0 0 X.A) (h1 : Cond.methodLink own index y ∈ wsL_law) (h2 : Cond.static y ∈ wsL_law) (h4 : Cond.initialized y.cls ∈ wsL_law) (h5 : Cond.code y ccy maxLy ret ∈ wsL_law) (hd : y.cls ≠ "java/lang/invoke/MethodHandle" ∧ y.cls ≠ "java/lang/invoke/VarHandle" ∧ (parseMethodDescriptor y.desc).map (fun d => d.parameters.length) = some n) (hR : fitsR rmy rm maxLy) (hcs : cs ≤ rm.cells ∧ ss ≤ rm.slots) (hst : (st.map fun v => v.category).sum ≤ 8) (hn : As.length = n) (hstk : stk = As.reverse ++ st) (d : decode cc pc = .ok (.invokestatic index, 3))
    (k : ∀ r1, M1 = some r1 → GO X K nL Q (f r1) (es r1) cs ss (pc + 3) lo (.int (ei r1) :: st)) : GO X K nL Q (M1.bind f) σ cs ss pc lo stk := by
  intro r0 hr H locs ls hP hS hl
  obtain ⟨r1, e, hr⟩ := Option.bind_eq_some_iff.mp hr
  subst hstk
  exact va_calli (va_runS (As := As) (rest := st) ⟨C.x, C.b, C.ml, C.ow, C.ts⟩ (hM r1 e) (va_cwS n C.ts (gi_S h1 h2 h4 h5) rfl hR.2.2.1 hR.2.2.2 hd (by rw [C.R]; exact ⟨hR.1, hR.2.1⟩)) ⟨pw_blind _ σ, fun U hU hW => ⟨rfl, pw_at C hP hS U hU hW⟩⟩ rfl hn hl.1 rfl (lv_room hst) d (by rw [C.R]; exact hcs)) hS (fun q _ h => h) (fun q h => h) (fun r u t H1 locs1 ht hvm hw hB hz hk hS1 => by
      subst hw
      exact k r1 e r0 hr H1 locs1 ls (by rw [← ht]; exact hB) hS1 hl)
theorem g_callSv (C : MC X K cc nL own rm) (hM : ∀ r1, M1 = some r1 → Met X.l y (wsM y ccy maxLy ret) rmy (va_Pc (As) (PW X σ)) (Qv X (es r1)) 0 0 X.A) (h1 : Cond.methodLink own index y ∈ wsL_law) (h2 : Cond.static y ∈ wsL_law) (h4 : Cond.initialized y.cls ∈ wsL_law) (h5 : Cond.code y ccy maxLy ret ∈ wsL_law) (hd : y.cls ≠ "java/lang/invoke/MethodHandle" ∧ y.cls ≠ "java/lang/invoke/VarHandle" ∧ (parseMethodDescriptor y.desc).map (fun d => d.parameters.length) = some n) (hR : fitsR rmy rm maxLy) (hcs : cs ≤ rm.cells ∧ ss ≤ rm.slots) (hst : (st.map fun v => v.category).sum ≤ 8) (hn : As.length = n) (hstk : stk = As.reverse ++ st) (d : decode cc pc = .ok (.invokestatic index, 3))
    (k : ∀ r1, M1 = some r1 → GO X K nL Q (f r1) (es r1) cs ss (pc + 3) lo (st)) : GO X K nL Q (M1.bind f) σ cs ss pc lo stk := by
  intro r0 hr H locs ls hP hS hl
  obtain ⟨r1, e, hr⟩ := Option.bind_eq_some_iff.mp hr
  subst hstk
  exact va_callv (va_runS (As := As) (rest := st) ⟨C.x, C.b, C.ml, C.ow, C.ts⟩ (hM r1 e) (va_cwS n C.ts (gi_S h1 h2 h4 h5) rfl hR.2.2.1 hR.2.2.2 hd (by rw [C.R]; exact ⟨hR.1, hR.2.1⟩)) ⟨pw_blind _ σ, fun U hU hW => ⟨rfl, pw_at C hP hS U hU hW⟩⟩ rfl hn hl.1 rfl (lv_room hst) d (by rw [C.R]; exact hcs)) hS (fun q _ h => h) (fun q h => h) (fun u t H1 locs1 ht hvm hw hB hz hk hS1 => k r1 e r0 hr H1 locs1 ls (by rw [← ht]; exact hB) hS1 hl)
theorem g_callSl {ei : ρ1 → Int64} (C : MC X K cc nL own rm) (hM : ∀ r1, M1 = some r1 → Met X.l y (wsM y ccy maxLy ret) rmy (va_Pc (As) (PW X σ)) (Ql X (ei r1) (es r1)) 0 0 X.A) (h1 : Cond.methodLink own index y ∈ wsL_law) (h2 : Cond.static y ∈ wsL_law) (h4 : Cond.initialized y.cls ∈ wsL_law) (h5 : Cond.code y ccy maxLy ret ∈ wsL_law) (hd : y.cls ≠ "java/lang/invoke/MethodHandle" ∧ y.cls ≠ "java/lang/invoke/VarHandle" ∧ (parseMethodDescriptor y.desc).map (fun d => d.parameters.length) = some n) (hR : fitsR rmy rm maxLy) (hcs : cs ≤ rm.cells ∧ ss ≤ rm.slots) (hst : (st.map fun v => v.category).sum ≤ 8) (hn : As.length = n) (hstk : stk = As.reverse ++ st) (d : decode cc pc = .ok (.invokestatic index, 3))
    (k : ∀ r1, M1 = some r1 → GO X K nL Q (f r1) (es r1) cs ss (pc + 3) lo (.long (ei r1) :: st)) : GO X K nL Q (M1.bind f) σ cs ss pc lo stk := by
  intro r0 hr H locs ls hP hS hl
  obtain ⟨r1, e, hr⟩ := Option.bind_eq_some_iff.mp hr
  subst hstk
  exact va_calll (va_runS (As := As) (rest := st) ⟨C.x, C.b, C.ml, C.ow, C.ts⟩ (hM r1 e) (va_cwS n C.ts (gi_S h1 h2 h4 h5) rfl hR.2.2.1 hR.2.2.2 hd (by rw [C.R]; exact ⟨hR.1, hR.2.1⟩)) ⟨pw_blind _ σ, fun U hU hW => ⟨rfl, pw_at C hP hS U hU hW⟩⟩ rfl hn hl.1 rfl (lv_room hst) d (by rw [C.R]; exact hcs)) hS (fun q _ h => h) (fun q h => h) (fun r u t H1 locs1 ht hvm hw hB hz hk hS1 => by
      subst hw
      exact k r1 e r0 hr H1 locs1 ls (by rw [← ht]; exact hB) hS1 hl)
theorem g_callNi {ei : ρ1 → Int32} {host : String} (C : MC X K cc nL own rm) (hM : ∀ r1, M1 = some r1 → Met X.l y (wsM y ccy maxLy ret) rmy (va_Pc (As) (PW X σ)) (Qi X (ei r1) (es r1)) 0 0 X.A) (h1 : (own, index, y, host) ∈ nestL) (h2 : Cond.static y ∈ wsL_law) (h4 : Cond.initialized y.cls ∈ wsL_law) (h5 : Cond.code y ccy maxLy ret ∈ wsL_law) (hd : y.cls ≠ "java/lang/invoke/MethodHandle" ∧ y.cls ≠ "java/lang/invoke/VarHandle" ∧ (parseMethodDescriptor y.desc).map (fun d => d.parameters.length) = some n) (hR : fitsR rmy rm maxLy) (hcs : cs ≤ rm.cells ∧ ss ≤ rm.slots) (hst : (st.map fun v => v.category).sum ≤ 8) (hn : As.length = n) (hstk : stk = As.reverse ++ st) (d : decode cc pc = .ok (.invokestatic index, 3))
    (k : ∀ r1, M1 = some r1 → GO X K nL Q (f r1) (es r1) cs ss (pc + 3) lo (.int (ei r1) :: st)) : GO X K nL Q (M1.bind f) σ cs ss pc lo stk := by
  intro r0 hr H locs ls hP hS hl
  obtain ⟨r1, e, hr⟩ := Option.bind_eq_some_iff.mp hr
  subst hstk
  exact va_calli (va_runSN (As := As) (rest := st) ⟨C.x, C.b, C.ml, C.ow, C.ts⟩ (hM r1 e) (⟨va_cnB n C.ts (gi_M h5) rfl hR.2.2.1 hR.2.2.2 (C.k.1 _ h1) (C.ts _ h4) hd (by rw [C.R]; exact ⟨hR.1, hR.2.1⟩), C.ts _ h2, trivial⟩) ⟨pw_blind _ σ, fun U hU hW => ⟨rfl, pw_at C hP hS U hU hW⟩⟩ rfl hn hl.1 rfl (lv_room hst) d (by rw [C.R]; exact hcs)) hS (fun q _ h => h) (fun q h => h) (fun r u t H1 locs1 ht hvm hw hB hz hk hS1 => by
      subst hw
      exact k r1 e r0 hr H1 locs1 ls (by rw [← ht]; exact hB) hS1 hl)
theorem g_callNv {host : String} (C : MC X K cc nL own rm) (hM : ∀ r1, M1 = some r1 → Met X.l y (wsM y ccy maxLy ret) rmy (va_Pc (As) (PW X σ)) (Qv X (es r1)) 0 0 X.A) (h1 : (own, index, y, host) ∈ nestL) (h2 : Cond.static y ∈ wsL_law) (h4 : Cond.initialized y.cls ∈ wsL_law) (h5 : Cond.code y ccy maxLy ret ∈ wsL_law) (hd : y.cls ≠ "java/lang/invoke/MethodHandle" ∧ y.cls ≠ "java/lang/invoke/VarHandle" ∧ (parseMethodDescriptor y.desc).map (fun d => d.parameters.length) = some n) (hR : fitsR rmy rm maxLy) (hcs : cs ≤ rm.cells ∧ ss ≤ rm.slots) (hst : (st.map fun v => v.category).sum ≤ 8) (hn : As.length = n) (hstk : stk = As.reverse ++ st) (d : decode cc pc = .ok (.invokestatic index, 3))
    (k : ∀ r1, M1 = some r1 → GO X K nL Q (f r1) (es r1) cs ss (pc + 3) lo (st)) : GO X K nL Q (M1.bind f) σ cs ss pc lo stk := by
  intro r0 hr H locs ls hP hS hl
  obtain ⟨r1, e, hr⟩ := Option.bind_eq_some_iff.mp hr
  subst hstk
  exact va_callv (va_runSN (As := As) (rest := st) ⟨C.x, C.b, C.ml, C.ow, C.ts⟩ (hM r1 e) (⟨va_cnB n C.ts (gi_M h5) rfl hR.2.2.1 hR.2.2.2 (C.k.1 _ h1) (C.ts _ h4) hd (by rw [C.R]; exact ⟨hR.1, hR.2.1⟩), C.ts _ h2, trivial⟩) ⟨pw_blind _ σ, fun U hU hW => ⟨rfl, pw_at C hP hS U hU hW⟩⟩ rfl hn hl.1 rfl (lv_room hst) d (by rw [C.R]; exact hcs)) hS (fun q _ h => h) (fun q h => h) (fun u t H1 locs1 ht hvm hw hB hz hk hS1 => k r1 e r0 hr H1 locs1 ls (by rw [← ht]; exact hB) hS1 hl)
end GK

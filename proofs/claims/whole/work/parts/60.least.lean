/-! LEAST SOLUTIONS of wires that are 1, 0 or unknown: two bits (is 1, is 0) -/
abbrev B2 : Type := Bool × Bool
def ble (a b : B2) : Prop := (a.1 = true → b.1 = true) ∧ (a.2 = true → b.2 = true)
def pAnd (a b : B2) : B2 := (a.1 && b.1, a.2 || b.2)
def pOr (a b : B2) : B2 := (a.1 || b.1, a.2 && b.2)
def pNot (a : B2) : B2 := (a.2, a.1)
def bco (a : B2) : Prop := ¬ (a.1 = true ∧ a.2 = true)
theorem ble_rfl {a : B2} : ble a a := ⟨id, id⟩
theorem ble_trans {a b c : B2} (h1 : ble a b) (h2 : ble b c) : ble a c := ⟨fun z => h2.1 (h1.1 z), fun z => h2.2 (h1.2 z)⟩
theorem ble_anti {a b : B2} (h1 : ble a b) (h2 : ble b a) : a = b := by
  obtain ⟨a1, a2⟩ := a
  obtain ⟨b1, b2⟩ := b
  unfold ble at h1 h2
  cases a1 <;> cases a2 <;> cases b1 <;> cases b2 <;> simp_all
theorem pAnd_le {a b c d : B2} (h1 : ble a c) (h2 : ble b d) : ble (pAnd a b) (pAnd c d) := by
  obtain ⟨a1, a2⟩ := a; obtain ⟨b1, b2⟩ := b; obtain ⟨c1, c2⟩ := c; obtain ⟨d1, d2⟩ := d
  unfold ble pAnd at *
  cases a1 <;> cases a2 <;> cases b1 <;> cases b2 <;> simp_all
theorem pOr_le {a b c d : B2} (h1 : ble a c) (h2 : ble b d) : ble (pOr a b) (pOr c d) := by
  obtain ⟨a1, a2⟩ := a; obtain ⟨b1, b2⟩ := b; obtain ⟨c1, c2⟩ := c; obtain ⟨d1, d2⟩ := d
  unfold ble pOr at *
  cases a1 <;> cases a2 <;> cases b1 <;> cases b2 <;> simp_all
theorem pNot_le {a c : B2} (h1 : ble a c) : ble (pNot a) (pNot c) := ⟨h1.2, h1.1⟩
theorem pAnd_co {a b : B2} (h1 : bco a) (h2 : bco b) : bco (pAnd a b) := by
  obtain ⟨a1, a2⟩ := a; obtain ⟨b1, b2⟩ := b
  unfold bco pAnd at *
  cases a1 <;> cases a2 <;> cases b1 <;> cases b2 <;> simp_all
theorem pOr_co {a b : B2} (h1 : bco a) (h2 : bco b) : bco (pOr a b) := by
  obtain ⟨a1, a2⟩ := a; obtain ⟨b1, b2⟩ := b
  unfold bco pOr at *
  cases a1 <;> cases a2 <;> cases b1 <;> cases b2 <;> simp_all
theorem pNot_co {a : B2} (h1 : bco a) : bco (pNot a) := fun z => h1 ⟨z.2, z.1⟩
abbrev Va : Type := Nat → Nat → B2
abbrev vS : Type := Nat → Nat → Prop
def leV (VV : vS) (X Y : Va) : Prop := ∀ q j, VV q j → ble (X q j) (Y q j)
def eqV (VV : vS) (X Y : Va) : Prop := ∀ q j, VV q j → X q j = Y q j
def vset (X : Va) (q j : Nat) (v : B2) : Va := fun q' j' => if q' = q ∧ j' = j then v else X q' j'
def runU (F : Va → Va) : List (Nat × Nat) → Va → Va
  | [], X => X
  | (q, j) :: l, X => runU F l (vset X q j (F X q j))
def FOK (VV : vS) (F : Va → Va) : Prop := (∀ X Y, leV VV X Y → leV VV (F X) (F Y)) ∧ ∀ X, (∀ q j, VV q j → bco (X q j)) → ∀ q j, VV q j → bco (F X q j)
def asc (VV : vS) (F : Va → Va) (X : Va) : Prop := leV VV X (F X)
def coV (VV : vS) (X : Va) : Prop := ∀ q j, VV q j → bco (X q j)
def fixV (VV : vS) (F : Va → Va) (X : Va) : Prop := eqV VV (F X) X
def LFP (VV : vS) (F : Va → Va) (X : Va) : Prop := fixV VV F X ∧ ∀ Y, fixV VV F Y → leV VV X Y
section LS
variable {VV : vS} {F : Va → Va}
theorem leV_rfl {X : Va} : leV VV X X := fun _ _ _ => ble_rfl
theorem leV_trans {X Y Z : Va} (h1 : leV VV X Y) (h2 : leV VV Y Z) : leV VV X Z := fun q j h => ble_trans (h1 q j h) (h2 q j h)
theorem leV_anti {X Y : Va} (h1 : leV VV X Y) (h2 : leV VV Y X) : eqV VV X Y := fun q j h => ble_anti (h1 q j h) (h2 q j h)
theorem eqV_le {X Y : Va} (h : eqV VV X Y) : leV VV X Y := fun q j hv => by rw [h q j hv]; exact ble_rfl
theorem eqV_symm {X Y : Va} (h : eqV VV X Y) : eqV VV Y X := fun q j hv => (h q j hv).symm
theorem eqV_trans {X Y Z : Va} (h1 : eqV VV X Y) (h2 : eqV VV Y Z) : eqV VV X Z := fun q j h => (h1 q j h).trans (h2 q j h)
theorem F_congr (hF : FOK VV F) {X Y : Va} (h : eqV VV X Y) : eqV VV (F X) (F Y) := leV_anti (hF.1 _ _ (eqV_le h)) (hF.1 _ _ (eqV_le (eqV_symm h)))
theorem LFP_uniq {X Y : Va} (h1 : LFP VV F X) (h2 : LFP VV F Y) : eqV VV X Y := leV_anti (h1.2 Y h2.1) (h2.2 X h1.1)
theorem LFP_congr (hF : FOK VV F) {X Y : Va} (h : eqV VV X Y) (h1 : LFP VV F X) : LFP VV F Y :=
  ⟨eqV_trans (F_congr hF (eqV_symm h)) (eqV_trans h1.1 h), fun Z hZ => leV_trans (eqV_le (eqV_symm h)) (h1.2 Z hZ)⟩
theorem vset_at {X : Va} {q j : Nat} {v : B2} : vset X q j v q j = v := by simp [vset]
theorem vset_up (hF : FOK VV F) {X : Va} {q j : Nat} (hv : VV q j) (ha : asc VV F X) (hc : coV VV X) : asc VV F (vset X q j (F X q j)) ∧ leV VV X (vset X q j (F X q j)) ∧ coV VV (vset X q j (F X q j)) := by
  have hle : leV VV X (vset X q j (F X q j)) := by
    intro q' j' h
    unfold vset
    split
    · rename_i e; rw [e.1, e.2]; exact ha q j hv
    · exact ble_rfl
  refine ⟨?_, hle, ?_⟩
  · intro q' j' h
    have h1 := hF.1 _ _ hle q' j' h
    by_cases e : q' = q ∧ j' = j
    · rw [e.1, e.2] at h1 ⊢
      rw [vset_at]; exact h1
    · have : vset X q j (F X q j) q' j' = X q' j' := by unfold vset; rw [if_neg e]
      rw [this]
      exact ble_trans (ha q' j' h) h1
  · intro q' j' h
    unfold vset
    split
    · exact hF.2 X hc q j hv
    · exact hc q' j' h
theorem run_asc (hF : FOK VV F) : ∀ (l : List (Nat × Nat)) (X : Va), (∀ v, v ∈ l → VV v.1 v.2) → asc VV F X → coV VV X → asc VV F (runU F l X) ∧ leV VV X (runU F l X) ∧ coV VV (runU F l X) := by
  intro l
  induction l with
  | nil => intro X _ ha hc; exact ⟨ha, leV_rfl, hc⟩
  | cons v l ih =>
    intro X hl ha hc
    obtain ⟨q, j⟩ := v
    obtain ⟨a1, a2, a3⟩ := vset_up hF (hl (q, j) (by simp)) ha hc
    obtain ⟨b1, b2, b3⟩ := ih _ (fun v hv => hl v (List.mem_cons_of_mem _ hv)) a1 a3
    exact ⟨b1, leV_trans a2 b2, b3⟩
theorem run_below (hF : FOK VV F) {Y : Va} (hY : fixV VV F Y) : ∀ (l : List (Nat × Nat)) (X : Va), (∀ v, v ∈ l → VV v.1 v.2) → leV VV X Y → leV VV (runU F l X) Y := by
  intro l
  induction l with
  | nil => intro X _ h; exact h
  | cons v l ih =>
    intro X hl h
    obtain ⟨q, j⟩ := v
    refine ih _ (fun v hv => hl v (List.mem_cons_of_mem _ hv)) (fun q' j' h' => ?_)
    unfold vset
    split
    · rename_i e
      rw [e.1, e.2, ← hY q j (hl (q, j) (by simp))]
      exact hF.1 _ _ h q j (hl (q, j) (by simp))
    · exact h q' j' h'
theorem run_stable (hF : FOK VV F) : ∀ (l : List (Nat × Nat)) (X : Va), (∀ v, v ∈ l → VV v.1 v.2) → asc VV F X → coV VV X → eqV VV (runU F l X) X → ∀ v, v ∈ l → F X v.1 v.2 = X v.1 v.2 := by
  intro l
  induction l with
  | nil => intro X _ _ _ _ v hv; cases hv
  | cons v l ih =>
    intro X hl ha hc he w hw
    obtain ⟨q, j⟩ := v
    have hq := hl (q, j) (by simp)
    obtain ⟨a1, a2, a3⟩ := vset_up hF hq ha hc
    have hl' : ∀ v, v ∈ l → VV v.1 v.2 := fun v hv => hl v (List.mem_cons_of_mem _ hv)
    obtain ⟨b1, b2, b3⟩ := run_asc hF l _ hl' a1 a3
    have e1 : eqV VV (vset X q j (F X q j)) X := leV_anti (leV_trans b2 (eqV_le he)) a2
    rcases List.mem_cons.mp hw with rfl | hw
    · have := e1 q j hq
      rw [vset_at] at this
      exact this
    · have h1 := ih _ hl' a1 a3 (eqV_trans he (eqV_symm e1)) w hw
      have hwv := hl' w hw
      rw [F_congr hF e1 w.1 w.2 hwv, e1 w.1 w.2 hwv] at h1
      exact h1
def cntU (VL : List (Nat × Nat)) (X : Va) : Nat := VL.countP (fun v => decide (X v.1 v.2 = (false, false)))
theorem cnt_lt {VL : List (Nat × Nat)} (hVL : ∀ q j, VV q j ↔ (q, j) ∈ VL) {X Y : Va} (hle : leV VV X Y) (hc : coV VV Y) (hne : ¬ eqV VV X Y) : cntU VL Y < cntU VL X := by
  have hex : ∃ q j, VV q j ∧ ¬ X q j = Y q j := by
    rcases Classical.em (∃ q j, VV q j ∧ ¬ X q j = Y q j) with z | z
    · exact z
    · exact absurd (fun q j h => by rcases Classical.em (X q j = Y q j) with w | w; exact w; exact absurd ⟨q, j, h, w⟩ z) hne
  obtain ⟨q, j, hv, hn⟩ := hex
  have hsub : ∀ v : Nat × Nat, v ∈ VL → Y v.1 v.2 = (false, false) → X v.1 v.2 = (false, false) := by
    intro v hv2 e
    have := hle v.1 v.2 ((hVL v.1 v.2).mpr hv2)
    rw [e] at this
    generalize X v.1 v.2 = x at this ⊢
    obtain ⟨x1, x2⟩ := x
    unfold ble at this
    cases x1 <;> cases x2 <;> simp_all
  have hX0 : X q j = (false, false) ∧ ¬ Y q j = (false, false) := by
    have h1 := hle q j hv
    have h2 := hc q j hv
    generalize X q j = x at *
    generalize Y q j = y at *
    obtain ⟨x1, x2⟩ := x
    obtain ⟨y1, y2⟩ := y
    unfold ble at h1
    unfold bco at h2
    cases x1 <;> cases x2 <;> cases y1 <;> cases y2 <;> simp_all
  have hmem := (hVL q j).mp hv
  clear hVL hv hn hle
  unfold cntU
  have key : ∀ l : List (Nat × Nat), (∀ v, v ∈ l → Y v.1 v.2 = (false, false) → X v.1 v.2 = (false, false)) → l.countP (fun v => decide (Y v.1 v.2 = (false, false))) ≤ l.countP (fun v => decide (X v.1 v.2 = (false, false))) ∧ ((q, j) ∈ l → l.countP (fun v => decide (Y v.1 v.2 = (false, false))) < l.countP (fun v => decide (X v.1 v.2 = (false, false)))) := by
    intro l
    induction l with
    | nil => intro _; exact ⟨Nat.le_refl _, fun h => by cases h⟩
    | cons v l ih =>
      intro hs
      obtain ⟨i1, i2⟩ := ih (fun v hv => hs v (List.mem_cons_of_mem _ hv))
      rw [List.countP_cons, List.countP_cons]
      have hv := hs v (by simp)
      by_cases hy : Y v.1 v.2 = (false, false)
      · have hx := hv hy
        simp only [hx, hy, decide_true, if_true]
        refine ⟨by omega, fun hm => ?_⟩
        rcases List.mem_cons.mp hm with e | e
        · subst e; exact absurd hy hX0.2
        · have := i2 e; omega
      · by_cases hx : X v.1 v.2 = (false, false)
        · simp only [hx, hy, decide_true, decide_false, if_true]
          exact ⟨by simp; omega, fun _ => by simp; omega⟩
        · simp only [hx, hy, decide_false]
          refine ⟨by simp; omega, fun hm => ?_⟩
          rcases List.mem_cons.mp hm with e | e
          · subst e; exact absurd hX0.1 hx
          · have := i2 e; simp; omega
  exact (key VL hsub).2 hmem
/-- a row of sweeps from 'all unknown' -/
def swq (VV : vS) (F : Va → Va) (Xs : Nat → Va) (m : Nat) : Prop := (∀ q j, VV q j → Xs 0 q j = (false, false)) ∧ ∀ k, k < m → ∃ l : List (Nat × Nat), (∀ v, v ∈ l → VV v.1 v.2) ∧ (∀ q j, VV q j → (q, j) ∈ l) ∧ eqV VV (Xs (k + 1)) (runU F l (Xs k))
theorem asc_congr (hF : FOK VV F) {X Y : Va} (h : eqV VV X Y) (ha : asc VV F X) : asc VV F Y := leV_trans (eqV_le (eqV_symm h)) (leV_trans ha (eqV_le (F_congr hF h)))
theorem co_congr {X Y : Va} (h : eqV VV X Y) (ha : coV VV X) : coV VV Y := fun q j hv => by rw [← h q j hv]; exact ha q j hv
theorem seq_inv (hF : FOK VV F) {Xs : Nat → Va} {m : Nat} (hX : swq VV F Xs m) : ∀ k, k ≤ m → asc VV F (Xs k) ∧ coV VV (Xs k) ∧ ∀ Y, fixV VV F Y → leV VV (Xs k) Y := by
  intro k
  induction k with
  | zero =>
    intro _
    have bot : ∀ Y, leV VV (Xs 0) Y := fun Y q j hv => by rw [hX.1 q j hv]; exact ⟨fun z => (by cases z), fun z => (by cases z)⟩
    exact ⟨bot _, fun q j hv => by rw [hX.1 q j hv]; exact fun z => (by cases z.1), fun Y _ => bot Y⟩
  | succ k ih =>
    intro hk
    obtain ⟨i1, i2, i3⟩ := ih (by omega)
    obtain ⟨l, l1, l2, l3⟩ := hX.2 k (by omega)
    obtain ⟨r1, r2, r3⟩ := run_asc hF l (Xs k) l1 i1 i2
    exact ⟨asc_congr hF (eqV_symm l3) r1, co_congr (eqV_symm l3) r3, fun Y hY => leV_trans (eqV_le l3) (run_below hF hY l _ l1 (i3 Y hY))⟩
theorem seq_stop (hF : FOK VV F) {Xs : Nat → Va} {m : Nat} (hX : swq VV F Xs m) {k : Nat} (hk : k < m) (he : eqV VV (Xs (k + 1)) (Xs k)) : LFP VV F (Xs k) := by
  obtain ⟨i1, i2, i3⟩ := seq_inv hF hX k (by omega)
  obtain ⟨l, l1, l2, l3⟩ := hX.2 k hk
  refine ⟨fun q j hv => ?_, i3⟩
  exact run_stable hF l (Xs k) l1 i1 i2 (eqV_trans (eqV_symm l3) he) (q, j) (l2 q j hv)
theorem seq_step_le (hF : FOK VV F) {Xs : Nat → Va} {m : Nat} (hX : swq VV F Xs m) {k : Nat} (hk : k < m) : leV VV (Xs k) (Xs (k + 1)) := by
  obtain ⟨i1, i2, i3⟩ := seq_inv hF hX k (by omega)
  obtain ⟨l, l1, l2, l3⟩ := hX.2 k hk
  exact leV_trans (run_asc hF l (Xs k) l1 i1 i2).2.1 (eqV_le (eqV_symm l3))
theorem seq_end (hF : FOK VV F) {Xs : Nat → Va} {m : Nat} (hX : swq VV F Xs m) {VL : List (Nat × Nat)} (hVL : ∀ q j, VV q j ↔ (q, j) ∈ VL) (hm : VL.length < m) : LFP VV F (Xs m) := by
  have key : ∀ k, k ≤ m → LFP VV F (Xs k) ∨ cntU VL (Xs k) + k ≤ VL.length := by
    intro k
    induction k with
    | zero => intro _; exact Or.inr (by unfold cntU; rw [Nat.add_zero]; exact List.countP_le_length)
    | succ k ih =>
      intro hk
      have hle := seq_step_le hF hX (k := k) (by omega)
      obtain ⟨i1, i2, i3⟩ := seq_inv hF hX (k + 1) hk
      rcases ih (by omega) with z | z
      · exact Or.inl (LFP_congr hF (leV_anti hle (i3 _ z.1)) z)
      · by_cases he : eqV VV (Xs k) (Xs (k + 1))
        · exact Or.inl (LFP_congr hF he (seq_stop hF hX (k := k) (by omega) (eqV_symm he)))
        · have := cnt_lt hVL hle i2 he
          exact Or.inr (by omega)
  rcases key m (Nat.le_refl _) with z | z
  · exact z
  · omega
end LS

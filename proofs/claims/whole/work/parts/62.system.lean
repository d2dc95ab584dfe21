/-! THE WIRES' EQUATIONS, for one lane of inputs -/
def TF (A : List Th) : Prop := A.length ≤ 120 ∧ 0 < A.length ∧ SG A 0 (-1) (fun _ => False)
def zB : B2 := (false, true)
def oB : B2 := (true, false)
def ed (X : Va) (x : Int32) (c : Nat) : B2 := if x < 0 then zB else X 57 (6 * ix x + c)
def seO (se : Nat → B2) (x : Int32) : B2 := if x < 0 then zB else se (ix x)
def inB (inp i : Nat) : B2 := if inp.testBit i then oB else zB
def sv (inp : Nat) (X : Va) (x : Th) : B2 := if sgO x.2.1 < 4 then inB inp (ix (sgO x.2.1)) else if sgO x.2.1 < 8 then X 58 (ix (sgO x.2.1 - 4)) else X 58 (4 + x.2.2.2.2.2)
def ewi (x : Th) : Nat := if sgO x.2.1 < 8 then ix (sgO x.2.1 - 4) else 4 + x.2.2.2.2.2
def fGo (A : List Th) (inp : Nat) (st : Bool) (X : Va) (t : Nat) : B2 :=
  if (tA A t).2.2.1 = -1 then (st, !st) else
    let p := ix (tA A t).2.2.1
    let P := tA A p
    if P.1 = 4 then pAnd (X 53 p) (if P.2.2.2.1 = nI t then sv inp X P else pNot (sv inp X P))
    else if P.1 = 6 then (if P.2.2.2.1 = nI t then pOr (X 53 p) (ed X P.2.2.2.2.1 0) else ed X P.2.2.2.1 0)
    else if P.1 = 9 then (if P.2.2.2.1 = nI t then X 53 p else ed X P.2.2.2.1 0) else X 53 p
def fRes (A : List Th) (se : Nat → B2) (inp : Nat) (st : Bool) (X : Va) (t : Nat) : B2 :=
  if (tA A t).2.2.1 = -1 then (!st, st) else
    let p := ix (tA A t).2.2.1
    if (tA A p).1 = 5 then pAnd (pAnd (X 54 p) (se p)) (pNot (sv inp X (tA A p))) else X 54 p
def fSus (A : List Th) (se : Nat → B2) (inp : Nat) (X : Va) (t : Nat) : B2 :=
  if (tA A t).2.2.1 = -1 then zB else
    let p := ix (tA A t).2.2.1
    if (tA A p).1 = 5 then pOr (X 55 p) (pAnd (pAnd (X 54 p) (se p)) (sv inp X (tA A p))) else X 55 p
def upB (se : Nat → B2) (X : Va) (s o : Int32) : Nat → B2
  | 0 => pAnd (pNot (seO se s)) (seO se o)
  | c + 1 => pOr (upB se X s o c) (ed X s c)
def onB (w c : Nat) (v : B2) : B2 := if c = w then v else zB
def fK (A : List Th) (se : Nat → B2) (inp : Nat) (X : Va) (t c : Nat) : B2 :=
  let x := tA A t
  let a := x.2.2.2.1
  let b := x.2.2.2.2.1
  if x.1 = 1 then (if c = 0 then pAnd (se t) (X 54 t) else onB 1 c (X 53 t))
  else if x.1 = 3 then onB (ix x.2.1) c (X 53 t)
  else if x.1 = 4 then pOr (ed X a c) (ed X b c)
  else if x.1 = 5 then (if c = 1 then pOr (ed X a 1) (pAnd (pAnd (X 54 t) (se t)) (sv inp X x)) else ed X a c)
  else if x.1 = 6 then (if c = 0 then zB else pOr (ed X a c) (ed X b c))
  else if x.1 = 7 then (if c = 0 then pOr (ed X a 0) (ed X a 2) else if c = 1 then ed X a 1 else if c + 1 < 6 then ed X a (c + 1) else zB)
  else if x.1 = 8 then ed X a c
  else if x.1 = 9 then (if c = 0 then ed X b 0 else pOr (ed X a c) (ed X b c))
  else if x.1 = 10 then pAnd (pAnd (upB se X a b (c + 1)) (upB se X b a (c + 1))) (pOr (ed X a c) (ed X b c))
  else onB 0 c (X 53 t)
def fSig (A : List Th) (X : Va) (w : Nat) : Nat → B2
  | 0 => zB
  | t + 1 => if (tA A t).1 = 2 ∧ ewi (tA A t) = w then pOr (fSig A X w t) (X 53 t) else fSig A X w t
def FW (A : List Th) (se : Nat → B2) (inp : Nat) (st : Bool) (X : Va) : Va := fun q j => if q = 53 then fGo A inp st X j else if q = 54 then fRes A se inp st X j else if q = 55 then fSus A se inp X j else if q = 57 then fK A se inp X (j / 6) (j % 6) else if q = 58 then fSig A X j A.length else zB
def VW (A : List Th) : vS := fun q j => ((q = 53 ∨ q = 54 ∨ q = 55) ∧ j < A.length) ∨ (q = 57 ∧ j < 6 * A.length) ∨ (q = 58 ∧ (j < 4 ∨ ∃ o, o < A.length ∧ (tA A o).1 = 8 ∧ j = 4 + o))
section SY
variable {A : List Th} {se : Nat → B2} {inp : Nat} {st : Bool}
theorem tf_at (hT : TF A) {t : Nat} (ht : t < A.length) : (t = 0 → (tA A t).2.2.1 = -1) ∧ (0 < t → ∃ p, p < t ∧ (tA A t).2.2.1 = nI p ∧ ((tA A p).2.2.2.1 = nI t ∨ (tA A p).2.2.2.2.1 = nI t)) ∧
    ((tA A t).2.2.2.1 = -1 ∨ ∃ a, t < a ∧ a < A.length ∧ (tA A t).2.2.2.1 = nI a ∧ (tA A a).2.2.1 = nI t) ∧
    ((tA A t).2.2.2.2.1 = -1 ∨ ∃ a b, t < a ∧ a < b ∧ b < A.length ∧ (tA A t).2.2.2.1 = nI a ∧ (tA A t).2.2.2.2.1 = nI b ∧ (tA A b).2.2.1 = nI t) ∧ thK (tA A t) ∧ thS (tA A t) ∧
    (((tA A t).1 = 2 ∨ (tA A t).1 = 4 ∨ (tA A t).1 = 5) → ¬ sgO (tA A t).2.1 < 8 → (tA A t).2.2.2.2.2 < A.length ∧ (tA A (tA A t).2.2.2.2.2).1 = 8) := by
  obtain ⟨a1, a2, a3, a4, a5, a6, a7⟩ := hT.2.2 t _ (tA_some ht)
  refine ⟨a1, fun h0 => ?_, ?_, ?_, a5, a6, fun z1 z2 => ?_⟩
  · obtain ⟨p, y, hp, e1, e2, e3⟩ := a2 h0
    rw [Nat.zero_add] at e1 e3
    exact ⟨p, hp, e1, by rw [tA_get e2]; exact e3⟩
  · rcases a3 with z | ⟨a, y, ha, e1, e2, e3⟩
    · exact Or.inl z
    · rw [Nat.zero_add] at e1 e3
      exact Or.inr ⟨a, ha, (List.getElem?_eq_some_iff.mp e2).1, e1, by rw [tA_get e2]; exact e3⟩
  · rcases a4 with z | ⟨a, b, y, ha, hb, e0, e1, e2, e3⟩
    · exact Or.inl z
    · rw [Nat.zero_add] at e0 e1 e3
      exact Or.inr ⟨a, b, ha, hb, (List.getElem?_eq_some_iff.mp e2).1, e0, e1, by rw [tA_get e2]; exact e3⟩
  · rcases a7 z1 z2 with ⟨o, y, e1, e2, e3⟩ | z
    · rw [Nat.zero_add] at e1
      rw [e1]
      exact ⟨(List.getElem?_eq_some_iff.mp e2).1, by rw [tA_get e2]; exact e3⟩
    · exact absurd z (fun w => w)
/-- a child's number -/
def chO (A : List Th) (x : Int32) : Prop := x = -1 ∨ ∃ a, a < A.length ∧ x = nI a
theorem tf_one (hT : TF A) {t : Nat} (ht : t < A.length) : chO A (tA A t).2.2.2.1 := by
  rcases (tf_at hT ht).2.2.1 with z | ⟨a, _, ha, e, _⟩
  · exact Or.inl z
  · exact Or.inr ⟨a, ha, e⟩
theorem tf_two (hT : TF A) {t : Nat} (ht : t < A.length) : chO A (tA A t).2.2.2.2.1 := by
  rcases (tf_at hT ht).2.2.2.1 with z | ⟨a, b, _, _, hb, _, e, _⟩
  · exact Or.inl z
  · exact Or.inr ⟨b, hb, e⟩
theorem tf_up (hT : TF A) {t : Nat} (ht : t < A.length) (hu : ¬ (tA A t).2.2.1 = -1) : ∃ p, p < t ∧ (tA A t).2.2.1 = nI p ∧ ix (tA A t).2.2.1 = p := by
  have h := tf_at hT ht
  have h0 : 0 < t := by
    rcases Nat.eq_zero_or_pos t with z | z
    · exact absurd (h.1 z) hu
    · exact z
  obtain ⟨p, hp, e, -⟩ := h.2.1 h0
  exact ⟨p, hp, e, by rw [e]; exact ix_nI (by have := hT.1; omega)⟩
theorem ed_le (hA : A.length ≤ 120) {X Y : Va} (h : leV (VW A) X Y) {x : Int32} (hx : chO A x) {c : Nat} (hc : c < 6) : ble (ed X x c) (ed Y x c) := by
  unfold ed
  rcases hx with rfl | ⟨a, ha, rfl⟩
  · exact ble_rfl
  · rw [if_neg (nI_pos (by omega)), if_neg (nI_pos (by omega)), ix_nI (by omega)]
    exact h 57 _ (Or.inr (Or.inl ⟨rfl, by omega⟩))
theorem ed_co (hA : A.length ≤ 120) {X : Va} (h : coV (VW A) X) {x : Int32} (hx : chO A x) {c : Nat} (hc : c < 6) : bco (ed X x c) := by
  unfold ed
  rcases hx with rfl | ⟨a, ha, rfl⟩
  · exact fun z => by cases z.1
  · rw [if_neg (nI_pos (by omega)), ix_nI (by omega)]
    exact h 57 _ (Or.inr (Or.inl ⟨rfl, by omega⟩))
theorem zB_co : bco zB := fun z => by cases z.1
theorem oB_co : bco oB := fun z => by cases z.2
theorem inB_co {i : Nat} : bco (inB inp i) := by unfold inB; split; exact oB_co; exact zB_co
/-- the wire that a thing looks at is one of the system's -/
theorem sv_var (hT : TF A) {t : Nat} (ht : t < A.length) (hk : (tA A t).1 = 4 ∨ (tA A t).1 = 5) : ¬ sgO (tA A t).2.1 < 4 → (sgO (tA A t).2.1 < 8 → VW A 58 (ix (sgO (tA A t).2.1 - 4))) ∧ (¬ sgO (tA A t).2.1 < 8 → VW A 58 (4 + (tA A t).2.2.2.2.2)) := by
  intro h4
  refine ⟨fun h8 => Or.inr (Or.inr ⟨rfl, Or.inl ?_⟩), fun h8 => Or.inr (Or.inr ⟨rfl, Or.inr ?_⟩)⟩
  · rcases sgO_cases (tA A t).2.1 with z | ⟨j, hj, z, -⟩ | ⟨j, hj, z, -⟩
    · rw [z] at h4; exact absurd (by decide) h4
    · rw [z] at h4 ⊢
      have : ∀ j, j < 8 → ¬ nI j < 4 → ix (nI j - 4) < 4 := by decide +kernel
      exact this j hj h4
    · rw [z] at h8; exact absurd h8 (sg_c hj).1
  · obtain ⟨o1, o2⟩ := (tf_at hT ht).2.2.2.2.2.2 (Or.inr hk) h8
    exact ⟨_, o1, o2, rfl⟩
theorem sv_le (hT : TF A) {X Y : Va} (h : leV (VW A) X Y) {t : Nat} (ht : t < A.length) (hk : (tA A t).1 = 4 ∨ (tA A t).1 = 5) : ble (sv inp X (tA A t)) (sv inp Y (tA A t)) := by
  unfold sv
  by_cases h4 : sgO (tA A t).2.1 < 4
  · rw [if_pos h4, if_pos h4]; exact ble_rfl
  · have hv := sv_var hT ht hk h4
    rw [if_neg h4, if_neg h4]
    by_cases h8 : sgO (tA A t).2.1 < 8
    · rw [if_pos h8, if_pos h8]; exact h 58 _ (hv.1 h8)
    · rw [if_neg h8, if_neg h8]; exact h 58 _ (hv.2 h8)
theorem sv_co (hT : TF A) {X : Va} (h : coV (VW A) X) {t : Nat} (ht : t < A.length) (hk : (tA A t).1 = 4 ∨ (tA A t).1 = 5) : bco (sv inp X (tA A t)) := by
  unfold sv
  by_cases h4 : sgO (tA A t).2.1 < 4
  · rw [if_pos h4]; exact inB_co
  · have hv := sv_var hT ht hk h4
    rw [if_neg h4]
    by_cases h8 : sgO (tA A t).2.1 < 8
    · rw [if_pos h8]; exact h 58 _ (hv.1 h8)
    · rw [if_neg h8]; exact h 58 _ (hv.2 h8)
theorem vw3 {q t : Nat} (hq : q = 53 ∨ q = 54 ∨ q = 55) (ht : t < A.length) : VW A q t := Or.inl ⟨hq, ht⟩
theorem upB_le (hA : A.length ≤ 120) {X Y : Va} (h : leV (VW A) X Y) {s o : Int32} (hs : chO A s) : ∀ c, c ≤ 6 → ble (upB se X s o c) (upB se Y s o c) := by
  intro c
  induction c with
  | zero => intro _; exact ble_rfl
  | succ c ih => intro hc; exact pOr_le (ih (by omega)) (ed_le hA h hs (by omega))
theorem upB_co (hA : A.length ≤ 120) (hse : ∀ t, bco (se t)) {X : Va} (h : coV (VW A) X) {s o : Int32} (hs : chO A s) : ∀ c, c ≤ 6 → bco (upB se X s o c) := by
  intro c
  have hso : ∀ x, bco (seO se x) := fun x => by unfold seO; split; exact zB_co; exact hse _
  induction c with
  | zero => intro _; exact pAnd_co (pNot_co (hso s)) (hso o)
  | succ c ih => intro hc; exact pOr_co (ih (by omega)) (ed_co hA h hs (by omega))
theorem onB_le {w c : Nat} {a b : B2} (h : ble a b) : ble (onB w c a) (onB w c b) := by unfold onB; split; exact h; exact ble_rfl
theorem onB_co {w c : Nat} {a : B2} (h : bco a) : bco (onB w c a) := by unfold onB; split; exact h; exact zB_co
theorem fSig_le {X Y : Va} (h : leV (VW A) X Y) {w : Nat} : ∀ t, t ≤ A.length → ble (fSig A X w t) (fSig A Y w t) := by
  intro t
  induction t with
  | zero => intro _; exact ble_rfl
  | succ t ih =>
    intro ht
    unfold fSig
    split
    · exact pOr_le (ih (by omega)) (h 53 t (vw3 (by decide) (by omega)))
    · exact ih (by omega)
theorem fSig_co {X : Va} (h : coV (VW A) X) {w : Nat} : ∀ t, t ≤ A.length → bco (fSig A X w t) := by
  intro t
  induction t with
  | zero => intro _; exact zB_co
  | succ t ih =>
    intro ht
    unfold fSig
    split
    · exact pOr_co (ih (by omega)) (h 53 t (vw3 (by decide) (by omega)))
    · exact ih (by omega)
set_option maxHeartbeats 4000000 in
theorem FW_le (hT : TF A) {X Y : Va} (h : leV (VW A) X Y) : leV (VW A) (FW A se inp st X) (FW A se inp st Y) := by
  intro q j hv
  have hA := hT.1
  rcases hv with ⟨hq, hj⟩ | ⟨hq, hj⟩ | ⟨hq, hj⟩
  · have hx3 : ∀ q p, (q = 53 ∨ q = 54 ∨ q = 55) → p < A.length → ble (X q p) (Y q p) := fun q p hq hp => h q p (vw3 hq hp)
    rcases hq with rfl | rfl | rfl
    · show ble (fGo A inp st X j) (fGo A inp st Y j)
      unfold fGo
      split
      · exact ble_rfl
      · rename_i hu
        obtain ⟨p, hp, e, ei⟩ := tf_up hT hj hu
        dsimp only
        rw [ei]
        split
        · rename_i hk
          refine pAnd_le (hx3 53 p (by decide) (by omega)) ?_
          split
          · exact sv_le hT h (by omega) (Or.inl hk)
          · exact pNot_le (sv_le hT h (by omega) (Or.inl hk))
        · split
          · split
            · exact pOr_le (hx3 53 p (by decide) (by omega)) (ed_le hA h (tf_two hT (by omega)) (by decide))
            · exact ed_le hA h (tf_one hT (by omega)) (by decide)
          · split
            · split
              · exact hx3 53 p (by decide) (by omega)
              · exact ed_le hA h (tf_one hT (by omega)) (by decide)
            · exact hx3 53 p (by decide) (by omega)
    · show ble (fRes A se inp st X j) (fRes A se inp st Y j)
      unfold fRes
      split
      · exact ble_rfl
      · rename_i hu
        obtain ⟨p, hp, e, ei⟩ := tf_up hT hj hu
        dsimp only
        rw [ei]
        split
        · rename_i hk
          exact pAnd_le (pAnd_le (hx3 54 p (by decide) (by omega)) ble_rfl) (pNot_le (sv_le hT h (by omega) (Or.inr hk)))
        · exact hx3 54 p (by decide) (by omega)
    · show ble (fSus A se inp X j) (fSus A se inp Y j)
      unfold fSus
      split
      · exact ble_rfl
      · rename_i hu
        obtain ⟨p, hp, e, ei⟩ := tf_up hT hj hu
        dsimp only
        rw [ei]
        split
        · rename_i hk
          exact pOr_le (hx3 55 p (by decide) (by omega)) (pAnd_le (pAnd_le (hx3 54 p (by decide) (by omega)) ble_rfl) (sv_le hT h (by omega) (Or.inr hk)))
        · exact hx3 55 p (by decide) (by omega)
  · subst hq
    show ble (fK A se inp X (j / 6) (j % 6)) (fK A se inp Y (j / 6) (j % 6))
    have ht : j / 6 < A.length := by omega
    have hc : j % 6 < 6 := by omega
    generalize j / 6 = t at *
    generalize j % 6 = c at *
    have x3 := h 53 t (vw3 (by decide) ht)
    have x4 := h 54 t (vw3 (by decide) ht)
    have e1 := fun c (hc : c < 6) => ed_le hA h (tf_one hT ht) hc
    have e2 := fun c (hc : c < 6) => ed_le hA h (tf_two hT ht) hc
    unfold fK
    dsimp only
    by_cases hk : (tA A t).1 = 1
    · rw [if_pos hk, if_pos hk]
      split
      · exact pAnd_le ble_rfl x4
      · exact onB_le x3
    rw [if_neg hk, if_neg hk]
    clear hk
    by_cases hk : (tA A t).1 = 3
    · rw [if_pos hk, if_pos hk]
      exact onB_le x3
    rw [if_neg hk, if_neg hk]
    clear hk
    by_cases hk : (tA A t).1 = 4
    · rw [if_pos hk, if_pos hk]
      exact pOr_le (e1 c hc) (e2 c hc)
    rw [if_neg hk, if_neg hk]
    clear hk
    by_cases hk : (tA A t).1 = 5
    · rw [if_pos hk, if_pos hk]
      split
      · exact pOr_le (e1 1 (by decide)) (pAnd_le (pAnd_le x4 ble_rfl) (sv_le hT h ht (Or.inr hk)))
      · exact e1 c hc
    rw [if_neg hk, if_neg hk]
    clear hk
    by_cases hk : (tA A t).1 = 6
    · rw [if_pos hk, if_pos hk]
      split
      · exact ble_rfl
      · exact pOr_le (e1 c hc) (e2 c hc)
    rw [if_neg hk, if_neg hk]
    clear hk
    by_cases hk : (tA A t).1 = 7
    · rw [if_pos hk, if_pos hk]
      split
      · exact pOr_le (e1 0 (by decide)) (e1 2 (by decide))
      · split
        · exact e1 1 (by decide)
        · split
          · rename_i h6; exact e1 _ h6
          · exact ble_rfl
    rw [if_neg hk, if_neg hk]
    clear hk
    by_cases hk : (tA A t).1 = 8
    · rw [if_pos hk, if_pos hk]
      exact e1 c hc
    rw [if_neg hk, if_neg hk]
    clear hk
    by_cases hk : (tA A t).1 = 9
    · rw [if_pos hk, if_pos hk]
      split
      · exact e2 0 (by decide)
      · exact pOr_le (e1 c hc) (e2 c hc)
    rw [if_neg hk, if_neg hk]
    clear hk
    by_cases hk : (tA A t).1 = 10
    · rw [if_pos hk, if_pos hk]
      exact pAnd_le (pAnd_le (upB_le hA h (tf_one hT ht) _ (by omega)) (upB_le hA h (tf_two hT ht) _ (by omega))) (pOr_le (e1 c hc) (e2 c hc))
    rw [if_neg hk, if_neg hk]
    clear hk
    exact onB_le x3
  · subst hq
    show ble (fSig A X j A.length) (fSig A Y j A.length)
    exact fSig_le h _ (Nat.le_refl _)
set_option maxHeartbeats 4000000 in
theorem FW_co (hT : TF A) (hse : ∀ t, bco (se t)) {X : Va} (h : coV (VW A) X) : coV (VW A) (FW A se inp st X) := by
  intro q j hv
  have hA := hT.1
  have stc : ∀ b : Bool, bco (b, !b) := by intro b; cases b <;> (intro z; simp at z)
  have stc2 : ∀ b : Bool, bco (!b, b) := by intro b; cases b <;> (intro z; simp at z)
  rcases hv with ⟨hq, hj⟩ | ⟨hq, hj⟩ | ⟨hq, hj⟩
  · have hx3 : ∀ q p, (q = 53 ∨ q = 54 ∨ q = 55) → p < A.length → bco (X q p) := fun q p hq hp => h q p (vw3 hq hp)
    rcases hq with rfl | rfl | rfl
    · show bco (fGo A inp st X j)
      unfold fGo
      split
      · exact stc st
      · rename_i hu
        obtain ⟨p, hp, e, ei⟩ := tf_up hT hj hu
        dsimp only
        rw [ei]
        split
        · rename_i hk
          refine pAnd_co (hx3 53 p (by decide) (by omega)) ?_
          split
          · exact sv_co hT h (by omega) (Or.inl hk)
          · exact pNot_co (sv_co hT h (by omega) (Or.inl hk))
        · split
          · split
            · exact pOr_co (hx3 53 p (by decide) (by omega)) (ed_co hA h (tf_two hT (by omega)) (by decide))
            · exact ed_co hA h (tf_one hT (by omega)) (by decide)
          · split
            · split
              · exact hx3 53 p (by decide) (by omega)
              · exact ed_co hA h (tf_one hT (by omega)) (by decide)
            · exact hx3 53 p (by decide) (by omega)
    · show bco (fRes A se inp st X j)
      unfold fRes
      split
      · exact stc2 st
      · rename_i hu
        obtain ⟨p, hp, e, ei⟩ := tf_up hT hj hu
        dsimp only
        rw [ei]
        split
        · rename_i hk
          exact pAnd_co (pAnd_co (hx3 54 p (by decide) (by omega)) (hse p)) (pNot_co (sv_co hT h (by omega) (Or.inr hk)))
        · exact hx3 54 p (by decide) (by omega)
    · show bco (fSus A se inp X j)
      unfold fSus
      split
      · exact zB_co
      · rename_i hu
        obtain ⟨p, hp, e, ei⟩ := tf_up hT hj hu
        dsimp only
        rw [ei]
        split
        · rename_i hk
          exact pOr_co (hx3 55 p (by decide) (by omega)) (pAnd_co (pAnd_co (hx3 54 p (by decide) (by omega)) (hse p)) (sv_co hT h (by omega) (Or.inr hk)))
        · exact hx3 55 p (by decide) (by omega)
  · subst hq
    show bco (fK A se inp X (j / 6) (j % 6))
    have ht : j / 6 < A.length := by omega
    have hc : j % 6 < 6 := by omega
    generalize j / 6 = t at *
    generalize j % 6 = c at *
    have x3 := h 53 t (vw3 (by decide) ht)
    have x4 := h 54 t (vw3 (by decide) ht)
    have e1 := fun c (hc : c < 6) => ed_co hA h (tf_one hT ht) hc
    have e2 := fun c (hc : c < 6) => ed_co hA h (tf_two hT ht) hc
    unfold fK
    dsimp only
    by_cases hk : (tA A t).1 = 1
    · rw [if_pos hk]
      split
      · exact pAnd_co (hse t) x4
      · exact onB_co x3
    rw [if_neg hk]
    clear hk
    by_cases hk : (tA A t).1 = 3
    · rw [if_pos hk]
      exact onB_co x3
    rw [if_neg hk]
    clear hk
    by_cases hk : (tA A t).1 = 4
    · rw [if_pos hk]
      exact pOr_co (e1 c hc) (e2 c hc)
    rw [if_neg hk]
    clear hk
    by_cases hk : (tA A t).1 = 5
    · rw [if_pos hk]
      split
      · exact pOr_co (e1 1 (by decide)) (pAnd_co (pAnd_co x4 (hse t)) (sv_co hT h ht (Or.inr hk)))
      · exact e1 c hc
    rw [if_neg hk]
    clear hk
    by_cases hk : (tA A t).1 = 6
    · rw [if_pos hk]
      split
      · exact zB_co
      · exact pOr_co (e1 c hc) (e2 c hc)
    rw [if_neg hk]
    clear hk
    by_cases hk : (tA A t).1 = 7
    · rw [if_pos hk]
      split
      · exact pOr_co (e1 0 (by decide)) (e1 2 (by decide))
      · split
        · exact e1 1 (by decide)
        · split
          · rename_i h6; exact e1 _ h6
          · exact zB_co
    rw [if_neg hk]
    clear hk
    by_cases hk : (tA A t).1 = 8
    · rw [if_pos hk]
      exact e1 c hc
    rw [if_neg hk]
    clear hk
    by_cases hk : (tA A t).1 = 9
    · rw [if_pos hk]
      split
      · exact e2 0 (by decide)
      · exact pOr_co (e1 c hc) (e2 c hc)
    rw [if_neg hk]
    clear hk
    by_cases hk : (tA A t).1 = 10
    · rw [if_pos hk]
      exact pAnd_co (pAnd_co (upB_co hA hse h (tf_one hT ht) _ (by omega)) (upB_co hA hse h (tf_two hT ht) _ (by omega))) (pOr_co (e1 c hc) (e2 c hc))
    rw [if_neg hk]
    clear hk
    exact onB_co x3
  · subst hq
    show bco (fSig A X j A.length)
    exact fSig_co h _ (Nat.le_refl _)
theorem FW_ok (hT : TF A) (hse : ∀ t, bco (se t)) : FOK (VW A) (FW A se inp st) := ⟨fun _ _ h => FW_le hT h, fun _ h => FW_co hT hse h⟩
def VLs (A : List Th) : List (Nat × Nat) := (List.range A.length).map (fun t => (53, t)) ++ (List.range A.length).map (fun t => (54, t)) ++ (List.range A.length).map (fun t => (55, t)) ++ (List.range (6 * A.length)).map (fun t => (57, t)) ++ ((List.range 4).map (fun t => (58, t)) ++ ((List.range A.length).filter (fun o => decide ((tA A o).1 = 8))).map (fun o => (58, 4 + o)))
theorem VLs_ok : ∀ q j, VW A q j ↔ (q, j) ∈ VLs A := by
  intro q j
  unfold VW VLs
  simp only [List.mem_append, List.mem_map, List.mem_range, List.mem_filter, Prod.mk.injEq, decide_eq_true_eq]
  constructor
  · rintro (⟨rfl | rfl | rfl, h⟩ | ⟨rfl, h⟩ | ⟨rfl, h | ⟨o, h1, h2, rfl⟩⟩)
    · exact Or.inl (Or.inl (Or.inl (Or.inl ⟨j, h, rfl, rfl⟩)))
    · exact Or.inl (Or.inl (Or.inl (Or.inr ⟨j, h, rfl, rfl⟩)))
    · exact Or.inl (Or.inl (Or.inr ⟨j, h, rfl, rfl⟩))
    · exact Or.inl (Or.inr ⟨j, h, rfl, rfl⟩)
    · exact Or.inr (Or.inl ⟨j, h, rfl, rfl⟩)
    · exact Or.inr (Or.inr ⟨o, ⟨h1, h2⟩, rfl, rfl⟩)
  · rintro ((((⟨t, h, rfl, rfl⟩ | ⟨t, h, rfl, rfl⟩) | ⟨t, h, rfl, rfl⟩) | ⟨t, h, rfl, rfl⟩) | ⟨t, h, rfl, rfl⟩ | ⟨o, ⟨h1, h2⟩, rfl, rfl⟩)
    · exact Or.inl ⟨Or.inl rfl, h⟩
    · exact Or.inl ⟨Or.inr (Or.inl rfl), h⟩
    · exact Or.inl ⟨Or.inr (Or.inr rfl), h⟩
    · exact Or.inr (Or.inl ⟨rfl, h⟩)
    · exact Or.inr (Or.inr ⟨rfl, Or.inl h⟩)
    · exact Or.inr (Or.inr ⟨rfl, Or.inr ⟨o, h1, h2, rfl⟩⟩)
theorem VLs_len (hA : A.length ≤ 120) : (VLs A).length ≤ 1204 := by
  unfold VLs
  have : ((List.range A.length).filter (fun o => decide ((tA A o).1 = 8))).length ≤ A.length := by
    have := List.length_filter_le (fun o => decide ((tA A o).1 = 8)) (List.range A.length)
    simpa using this
  simp only [List.length_append, List.length_map, List.length_range]
  omega
end SY

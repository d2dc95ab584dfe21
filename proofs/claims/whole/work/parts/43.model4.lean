/-! THE REFERENCE: looking down its stack; closing, joining -/
theorem drop_get {α : Type} {O : List α} {i : Nat} (hi : i < O.length) : ∃ x, O[O.length - 1 - i]? = some x ∧ O.drop (O.length - (i + 1)) = x :: O.drop (O.length - i) := by
  have h1 : O.length - 1 - i < O.length := by omega
  refine ⟨O[O.length - 1 - i], List.getElem?_eq_getElem h1, ?_⟩
  rw [show O.length - (i + 1) = O.length - 1 - i by omega, List.drop_eq_getElem_cons h1, show O.length - 1 - i + 1 = O.length - i by omega]
section M4
variable {d : Nat} {h : mvH} {Q : Option mvV → mvH → Prop}
theorem stkO_at {O : List (Int32 × Int32)} (ho : stkO h O) {i : Nat} (hi : i < O.length) : ∃ x, O.drop (O.length - (i + 1)) = x :: O.drop (O.length - i) ∧ h 40 i = x.1 ∧ h 41 i = x.2 := by
  obtain ⟨x, h1, h2⟩ := drop_get hi
  have := ho.2 _ x h1
  rw [show O.length - 1 - (O.length - 1 - i) = i by omega] at this
  exact ⟨x, h2, this⟩
def liesO (O : List (Int32 × Int32)) (c : Int32) : Prop := c < 115 ∨ (92, c) ∈ O
theorem s_X5_lies (hd : 1 ≤ d) (c : Int32) {O : List (Int32 × Int32)} (ho : stkO h O) (hl : O.length ≤ 80) (hy : liesO O c → Q (some (.inl 1)) h) (hn : ¬ liesO O c → Q (some (.inl 0)) h) : mvCal mvMT d 107 [.inr 5, .inl c] h Q := by
  obtain ⟨d, rfl⟩ := d_pos hd (by decide)
  refine ⟨⟨rfl, by decide, rfl⟩, Nat.le_of_ble_eq_true rfl, fun K hK => hK _ _ _ _ ?_⟩
  have loop : ∀ k i, i + k = O.length → ∀ v : Int32, (v = 1 ∧ liesO (O.drop (O.length - i)) c) ∨ (v = 0 ∧ ¬ liesO (O.drop (O.length - i)) c) → K 14 [some (.inr 5), some (.inl c), some (.inl v), some (.inl (nI i))] [] h := by
    intro k
    induction k with
    | zero =>
      intro i hi v hv
      rw [show O.length - i = 0 by omega, List.drop_zero] at hv
      refine hK _ _ _ _ ⟨fun _ => ?_, fun e => absurd (show h 5 9 ≤ nI i by rw [ho.1]; exact nI_le (by omega) (by omega)) e⟩
      rcases hv with ⟨rfl, z⟩ | ⟨rfl, z⟩
      · exact hK _ _ _ _ ⟨Or.inr rfl, hy z⟩
      · exact hK _ _ _ _ ⟨Or.inl rfl, hn z⟩
    | succ k ih =>
      intro i hi v hv
      obtain ⟨x, hx, x1, x2⟩ := stkO_at ho (show i < O.length by omega)
      have hin : vp_in (nI i) 80 := vp_in_nI (by omega) (by decide)
      have ei : (nI i).toNatClampNeg = i := nI_clamp (by omega)
      have c52 : ∀ w : Int32, (w = 1 ∧ liesO (x :: O.drop (O.length - i)) c) ∨ (w = 0 ∧ ¬ liesO (x :: O.drop (O.length - i)) c) → K 52 [some (.inr 5), some (.inl c), some (.inl v), some (.inl (nI i))] [.inl w] h := by
        intro w hw
        refine hK _ _ _ _ ?_
        rw [← hx] at hw
        have h1 := ih (i + 1) (by omega) w hw
        rw [← nI_1] at h1
        exact h1
      have up : liesO (x :: O.drop (O.length - i)) c ↔ liesO (O.drop (O.length - i)) c ∨ x = (92, c) := by
        unfold liesO
        rw [List.mem_cons]
        constructor
        · intro z
          rcases z with z | z | z
          · exact Or.inl (Or.inl z)
          · exact Or.inr z.symm
          · exact Or.inl (Or.inr z)
        · intro z
          rcases z with (z | z) | z
          · exact Or.inl z
          · exact Or.inr (Or.inr z)
          · exact Or.inr (Or.inl z.symm)
      refine hK _ _ _ _ ⟨fun e => absurd (show h 5 9 ≤ nI i from e) (by rw [ho.1]; exact nI_ge (by omega) (by omega)), fun _ => ⟨fun e => ?_, fun e => ⟨hin, ?_⟩⟩⟩
      · have hv1 : liesO (O.drop (O.length - i)) c := by
          rcases hv with z | z
          · exact z.2
          · exact absurd z.1 e
        refine hK _ _ _ _ ?_
        exact c52 1 (Or.inl ⟨rfl, up.mpr (Or.inl hv1)⟩)
      · have hv0 : ¬ liesO (O.drop (O.length - i)) c := by
          rcases hv with z | z
          · rw [z.1] at e; exact absurd e (by decide)
          · exact z.2
        rw [ei, x1]
        refine ⟨fun e1 => ?_, fun e1 => ⟨hin, ?_⟩⟩
        · refine hK _ _ _ _ ?_
          exact c52 0 (Or.inr ⟨rfl, fun z => (up.mp z).elim hv0 (fun q => e1 (by rw [q]))⟩)
        · rw [ei, x2]
          refine ⟨fun e2 => ?_, fun e2 => ?_⟩
          · refine hK _ _ _ _ ?_
            exact c52 0 (Or.inr ⟨rfl, fun z => (up.mp z).elim hv0 (fun q => e2 (by rw [q]))⟩)
          · refine hK _ _ _ _ ?_
            exact c52 1 (Or.inl ⟨rfl, up.mpr (Or.inr (Prod.ext e1 e2))⟩)
  have l0 : O.drop (O.length - 0) = [] := by simp
  have start : ∀ v : Int32, (v = 1 ∧ c < 115) ∨ (v = 0 ∧ ¬ c < 115) → ∀ z1 z2, K 11 [some (.inr 5), some (.inl c), z1, z2] [.inl v] h := by
    intro v hv z1 z2
    refine hK _ _ _ _ ?_
    refine loop O.length 0 (by omega) v ?_
    rw [l0]
    unfold liesO
    rcases hv with z | z
    · exact Or.inl ⟨z.1, Or.inl z.2⟩
    · exact Or.inr ⟨z.1, fun w => w.elim z.2 (fun q => by cases q)⟩
  refine ⟨fun e => ?_, fun e => ?_⟩
  · refine hK _ _ _ _ ?_
    exact start 0 (Or.inr ⟨rfl, Int32.not_lt.mpr e⟩) _ _
  · exact start 1 (Or.inl ⟨rfl, Int32.not_le.mp e⟩) _ _
def trO (O : List (Int32 × Int32)) : Nat := O.countP (fun x => decide (x.1 = 123))
def dpO (O : List (Int32 × Int32)) : Nat := O.countP (fun x => decide (¬ (x.1 = 59 ∨ x.1 = 124)))
theorem s_X5_traps (hd : 1 ≤ d) {O : List (Int32 × Int32)} (ho : stkO h O) (hl : O.length ≤ 80) (hQ : Q (some (.inl (nI (trO O)))) h) : mvCal mvMT d 108 [.inr 5] h Q := by
  obtain ⟨d, rfl⟩ := d_pos hd (by decide)
  refine ⟨⟨rfl, by decide, rfl⟩, Nat.le_of_ble_eq_true rfl, fun K hK => hK _ _ _ _ ?_⟩
  have loop : ∀ k i, i + k = O.length → K 4 [some (.inr 5), some (.inl (nI (trO (O.drop (O.length - i))))), some (.inl (nI i))] [] h := by
    intro k
    induction k with
    | zero =>
      intro i hi
      rw [show O.length - i = 0 by omega, List.drop_zero]
      exact hK _ _ _ _ ⟨fun _ => hK _ _ _ _ ⟨trivial, hQ⟩, fun e => absurd (show h 5 9 ≤ nI i by rw [ho.1]; exact nI_le (by omega) (by omega)) e⟩
    | succ k ih =>
      intro i hi
      obtain ⟨x, hx, x1, x2⟩ := stkO_at ho (show i < O.length by omega)
      have h1 := ih (i + 1) (by omega)
      rw [hx] at h1
      have c29 : ∀ w, trO (x :: O.drop (O.length - i)) = trO (O.drop (O.length - i)) + w → K 29 [some (.inr 5), some (.inl (nI (trO (O.drop (O.length - i))))), some (.inl (nI i))] [.inl (nI w), .inl (nI (trO (O.drop (O.length - i))))] h := by
        intro w hw
        refine hK _ _ _ _ ?_
        rw [hw, ← nI_1, ← nI_add] at h1
        exact h1
      refine hK _ _ _ _ ⟨fun e => absurd (show h 5 9 ≤ nI i from e) (by rw [ho.1]; exact nI_ge (by omega) (by omega)), fun _ => ⟨vp_in_nI (by omega) (by decide), ?_⟩⟩
      rw [nI_clamp (by omega), x1]
      refine ⟨fun e => ?_, fun e => ?_⟩
      · refine hK _ _ _ _ ?_
        exact c29 0 (by unfold trO; rw [List.countP_cons]; simp [e])
      · exact c29 1 (by unfold trO; rw [List.countP_cons]; simp [e])
  have l0 : O.drop (O.length - 0) = [] := by simp
  have := loop O.length 0 (by omega)
  rw [l0] at this
  exact this
theorem s_X5_deep (hd : 1 ≤ d) {O : List (Int32 × Int32)} (ho : stkO h O) (hl : O.length ≤ 80) (hQ : Q (some (.inl (nI (1 + dpO O)))) h) : mvCal mvMT d 109 [.inr 5] h Q := by
  obtain ⟨d, rfl⟩ := d_pos hd (by decide)
  refine ⟨⟨rfl, by decide, rfl⟩, Nat.le_of_ble_eq_true rfl, fun K hK => hK _ _ _ _ ?_⟩
  have loop : ∀ k i, i + k = O.length → K 4 [some (.inr 5), some (.inl (nI (1 + dpO (O.drop (O.length - i))))), some (.inl (nI i))] [] h := by
    intro k
    induction k with
    | zero =>
      intro i hi
      rw [show O.length - i = 0 by omega, List.drop_zero]
      exact hK _ _ _ _ ⟨fun _ => hK _ _ _ _ ⟨trivial, hQ⟩, fun e => absurd (show h 5 9 ≤ nI i by rw [ho.1]; exact nI_le (by omega) (by omega)) e⟩
    | succ k ih =>
      intro i hi
      obtain ⟨x, hx, x1, x2⟩ := stkO_at ho (show i < O.length by omega)
      have hin : vp_in (nI i) 80 := vp_in_nI (by omega) (by decide)
      have ei : (nI i).toNatClampNeg = i := nI_clamp (by omega)
      have h1 := ih (i + 1) (by omega)
      rw [hx] at h1
      have c40 : ∀ w, dpO (x :: O.drop (O.length - i)) = dpO (O.drop (O.length - i)) + w → K 40 [some (.inr 5), some (.inl (nI (1 + dpO (O.drop (O.length - i))))), some (.inl (nI i))] [.inl (nI w), .inl (nI (1 + dpO (O.drop (O.length - i))))] h := by
        intro w hw
        refine hK _ _ _ _ ?_
        rw [hw, ← Nat.add_assoc, ← nI_1, ← nI_add] at h1
        exact h1
      refine hK _ _ _ _ ⟨fun e => absurd (show h 5 9 ≤ nI i from e) (by rw [ho.1]; exact nI_ge (by omega) (by omega)), fun _ => ⟨hin, ?_⟩⟩
      rw [ei, x1]
      refine ⟨fun e => ?_, fun e => ⟨hin, ?_⟩⟩
      · refine hK _ _ _ _ ?_
        exact c40 0 (by unfold dpO; rw [List.countP_cons]; simp [e])
      · rw [ei, x1]
        refine ⟨fun e2 => ?_, fun e2 => ?_⟩
        · refine hK _ _ _ _ ?_
          exact c40 1 (by unfold dpO; rw [List.countP_cons]; simp [e, e2])
        · refine hK _ _ _ _ ?_
          exact c40 0 (by unfold dpO; rw [List.countP_cons]; simp [e2])
  have l0 : O.drop (O.length - 0) = [] := by simp
  have := loop O.length 0 (by omega)
  rw [l0] at this
  exact this
end M4
abbrev mSt : Type := List (Int32 × Int32) × List Nat × List Nd
def clK (c : Int32) : Int32 := if c = 38 then 5 else if c = 42 then 6 else if c = 58 then 4 else 8
def closeS : List (Int32 × Int32) → List Nat → List Nd → mSt
  | [], R, N => ([], R, N)
  | (c, l) :: O, R, N => if c = 38 ∨ c = 42 ∨ c = 92 then (match R with
      | a :: R' => closeS O (N.length :: R') (N ++ [(clK c, l, nI a, -1)])
      | [] => ((c, l) :: O, [], N))
    else if c = 58 then (match R with
      | b :: a :: R' => closeS O (N.length :: R') (N ++ [(4, l, nI a, nI b)])
      | R => ((c, l) :: O, R, N))
    else ((c, l) :: O, R, N)
def joinS (all : Bool) : List (Int32 × Int32) → List Nat → List Nd → mSt
  | [], R, N => ([], R, N)
  | (c, l) :: O, R, N => if c = 124 ∨ (all = true ∧ c = 59) then (match R with
      | b :: a :: R' => joinS all O (N.length :: R') (N ++ [(if c = 124 then 10 else 9, 0, nI a, nI b)])
      | R => ((c, l) :: O, R, N))
    else ((c, l) :: O, R, N)
/-- parts that wait below the stack's operators -/
def cntB (O : List (Int32 × Int32)) : Nat := O.countP (fun x => decide (x.1 = 58 ∨ x.1 = 124 ∨ x.1 = 59))

/-! READING, as mathematics: a text of n characters, nodes in the order of their making: kind, argument (a letter, a digit), left, right -/
abbrev Nd : Type := Int32 × Int32 × Int32 × Int32
abbrev rdT : Type := Nat × List Nd × Nat
def sgO (c : Int32) : Int32 := if 97 ≤ c ∧ c ≤ 104 then c - 97 else if 115 ≤ c ∧ c ≤ 122 then 8 + (c - 115) else -1
def rdc (tx : Nat → Int32) (n p : Nat) : Int32 := if p < n then tx p else 0
def rdn (n p : Nat) : Nat := if p < n then p + 1 else p
def rdPl (tx : Nat → Int32) (n : Nat) (u : Nat → List Nd → Option rdT) (k c : Int32) : Nat → Nat → Nat → List Nd → Option rdT
  | 0, l, p, N => some (p, N, l)
  | m + 1, l, p, N => if p < n ∧ tx p = c then (match u (p + 1) N with
      | none => none
      | some (p2, N2, r) => rdPl tx n u k c m N2.length p2 (N2 ++ [(k, 0, nI l, nI r)])) else some (p, N, l)
def rdPar (tx : Nat → Int32) (n : Nat) (u : Nat → List Nd → Option rdT) (p : Nat) (N : List Nd) : Option rdT := match u p N with
  | none => none
  | some (p1, N1, l) => rdPl tx n u 10 124 60 l p1 N1
def rdSeq (tx : Nat → Int32) (n : Nat) (u : Nat → List Nd → Option rdT) (p : Nat) (N : List Nd) : Option rdT := match rdPar tx n u p N with
  | none => none
  | some (p1, N1, l) => rdPl tx n (rdPar tx n u) 9 59 60 l p1 N1
def rdAr (k c : Int32) : Option rdT → Option rdT
  | none => none
  | some (p, N, a) => some (p, N ++ [(k, c, nI a, -1)], N.length)
def rdCl (tx : Nat → Int32) (n : Nat) (c : Int32) : Option rdT → Option rdT
  | none => none
  | some (p, N, a) => if p < n ∧ tx p = c then some (p + 1, N, a) else none
def rdU (tx : Nat → Int32) (n : Nat) : Nat → Nat → List Nd → Option rdT
  | 0, _, _ => none
  | f + 1, p, N =>
    let c := rdc tx n p
    let p1 := rdn n p
    let s := rdc tx n p1
    let p2 := rdn n p1
    if c = 48 then some (p1, N ++ [(0, 0, -1, -1)], N.length)
    else if c = 49 then some (p1, N ++ [(1, 0, -1, -1)], N.length)
    else if c = 33 then (if sgO s < 4 then none else some (p2, N ++ [(2, s, -1, -1)], N.length))
    else if c = 94 then (if s < 50 ∨ 53 < s then none else some (p2, N ++ [(3, s - 48, -1, -1)], N.length))
    else if c = 63 then (if sgO s = -1 then none else match rdU tx n f p2 N with
      | none => none
      | some (p3, N3, a) => if p3 < n ∧ tx p3 = 58 then (match rdU tx n f (p3 + 1) N3 with
        | none => none
        | some (p4, N4, b) => some (p4, N4 ++ [(4, s, nI a, nI b)], N4.length)) else none)
    else if c = 38 then (if sgO s = -1 then none else rdAr 5 s (rdU tx n f p2 N))
    else if c = 42 then rdAr 6 0 (rdU tx n f p1 N)
    else if c = 92 then (if sgO s < 8 then none else rdAr 8 s (rdU tx n f p2 N))
    else if c = 123 then rdAr 7 0 (rdCl tx n 125 (rdSeq tx n (rdU tx n f) p1 N))
    else if c = 40 then rdCl tx n 41 (rdSeq tx n (rdU tx n f) p1 N)
    else none
/-- a good reader: it goes forward, makes no more nodes than it takes characters, the root is the last node -/
def rdOk (n p : Nat) (N : List Nd) (o : Option rdT) : Prop := match o with
  | none => True
  | some (p', N', a) => p < p' ∧ p' ≤ n ∧ N'.length + p ≤ N.length + p' ∧ a + 1 = N'.length ∧ N.length < N'.length
def rdOkF (n : Nat) (u : Nat → List Nd → Option rdT) : Prop := ∀ p N, p ≤ n → rdOk n p N (u p N)
theorem rdPl_ok {tx : Nat → Int32} {n : Nat} {u : Nat → List Nd → Option rdT} {k c : Int32} (hu : rdOkF n u) : ∀ m l p N p0 N0, p0 < p → p ≤ n → N.length + p0 ≤ N0.length + p → l + 1 = N.length → N0.length < N.length → rdOk n p0 N0 (rdPl tx n u k c m l p N) := by
  intro m
  induction m with
  | zero => intro l p N p0 N0 h1 h2 h3 h4 h5; exact ⟨h1, h2, h3, h4, h5⟩
  | succ m ih =>
    intro l p N p0 N0 h1 h2 h3 h4 h5
    unfold rdPl
    split
    · rename_i hc
      have hk := hu (p + 1) N hc.1
      split
      · trivial
      · rename_i p2 N2 r he
        rw [he] at hk
        obtain ⟨k1, k2, k3, k4, k5⟩ := hk
        exact ih _ _ _ _ _ (by omega) k2 (by simp; omega) (by simp) (by simp; omega)
    · exact ⟨h1, h2, h3, h4, h5⟩
theorem rdPar_ok {tx : Nat → Int32} {n : Nat} {u : Nat → List Nd → Option rdT} (hu : rdOkF n u) : rdOkF n (rdPar tx n u) := by
  intro p N hp
  have hk := hu p N hp
  unfold rdPar
  split
  · trivial
  · rename_i p1 N1 l he
    rw [he] at hk
    obtain ⟨k1, k2, k3, k4, k5⟩ := hk
    exact rdPl_ok hu _ _ _ _ _ _ k1 k2 k3 k4 k5
theorem rdSeq_ok {tx : Nat → Int32} {n : Nat} {u : Nat → List Nd → Option rdT} (hu : rdOkF n u) : rdOkF n (rdSeq tx n u) := by
  intro p N hp
  have hk := rdPar_ok (tx := tx) hu p N hp
  unfold rdSeq
  split
  · trivial
  · rename_i p1 N1 l he
    rw [he] at hk
    obtain ⟨k1, k2, k3, k4, k5⟩ := hk
    exact rdPl_ok (rdPar_ok hu) _ _ _ _ _ _ k1 k2 k3 k4 k5
theorem rdAr_ok {n p p0 : Nat} {N : List Nd} {k c : Int32} {o : Option rdT} (h : rdOk n p N o) (hp : p0 < p) : rdOk n p0 N (rdAr k c o) := by
  match o, h with
  | none, _ => trivial
  | some (p', N', a), h =>
    obtain ⟨k1, k2, k3, k4, k5⟩ := h
    exact ⟨by omega, k2, by simp; omega, by simp, by simp; omega⟩
theorem rdCl_ok {tx : Nat → Int32} {n p p0 : Nat} {N : List Nd} {c : Int32} {o : Option rdT} (h : rdOk n p N o) (hp : p0 ≤ p) : rdOk n p0 N (rdCl tx n c o) := by
  match o, h with
  | none, _ => trivial
  | some (p', N', a), h =>
    obtain ⟨k1, k2, k3, k4, k5⟩ := h
    unfold rdCl
    dsimp only
    split
    · rename_i hc
      exact ⟨by omega, by omega, by omega, k4, k5⟩
    · trivial
theorem rdU_ok {tx : Nat → Int32} {n : Nat} : ∀ f, rdOkF n (rdU tx n f) := by
  intro f
  induction f with
  | zero => intro p N _; trivial
  | succ f ih =>
    intro p N hp
    unfold rdU
    dsimp only
    by_cases hlt : p < n
    · have e1 : rdn n p = p + 1 := if_pos hlt
      have e2 : p + 1 ≤ rdn n (p + 1) ∧ rdn n (p + 1) ≤ n := by unfold rdn; split <;> omega
      rw [e1]
      have leaf : ∀ x q, p < q → q ≤ n → rdOk n p N (some (q, N ++ [x], N.length)) := fun x q h1 h2 => ⟨h1, h2, by simp; omega, by simp, by simp⟩
      split
      · exact leaf _ _ (by omega) hlt
      split
      · exact leaf _ _ (by omega) hlt
      split
      · split
        · trivial
        · exact leaf _ _ (by omega) e2.2
      split
      · split
        · trivial
        · exact leaf _ _ (by omega) e2.2
      split
      · split
        · trivial
        · have h1 := ih (rdn n (p + 1)) N e2.2
          split
          · trivial
          · rename_i p3 N3 a he
            rw [he] at h1
            obtain ⟨k1, k2, k3, k4, k5⟩ := h1
            split
            · rename_i hc
              have h2 := ih (p3 + 1) N3 hc.1
              split
              · trivial
              · rename_i p4 N4 b he2
                rw [he2] at h2
                obtain ⟨l1, l2, l3, l4, l5⟩ := h2
                exact ⟨by omega, l2, by simp; omega, by simp, by simp; omega⟩
            · trivial
      split
      · split
        · trivial
        · exact rdAr_ok (ih _ N e2.2) (by omega)
      split
      · exact rdAr_ok (ih _ N hlt) (by omega)
      split
      · split
        · trivial
        · exact rdAr_ok (ih _ N e2.2) (by omega)
      split
      · exact rdAr_ok (rdCl_ok (p0 := p + 1) (rdSeq_ok ih _ N hlt) (by omega)) (by omega)
      split
      · exact rdCl_ok (rdSeq_ok ih _ N hlt) (by omega)
      · trivial
    · have e0 : rdc tx n p = 0 := if_neg hlt
      rw [e0]
      simp only [show ¬ (0 : Int32) = 48 by decide, show ¬ (0 : Int32) = 49 by decide, show ¬ (0 : Int32) = 33 by decide, show ¬ (0 : Int32) = 94 by decide, show ¬ (0 : Int32) = 63 by decide, show ¬ (0 : Int32) = 38 by decide, show ¬ (0 : Int32) = 42 by decide, show ¬ (0 : Int32) = 92 by decide, show ¬ (0 : Int32) = 123 by decide, show ¬ (0 : Int32) = 40 by decide, if_false]
      trivial

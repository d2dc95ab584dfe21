/-! LAYING OUT, as mathematics: things in the order of their laying: kind, argument, around, first, second, and the LOCAL that owns a local signal -/
abbrev Th : Type := Int32 × Int32 × Int32 × Int32 × Int32 × Nat
def nd (N : List Nd) (i : Nat) : Nd := N.getD i (0, 0, -1, -1)
def lyE (x : Nd) (t : Nat) (E : Nat → Nat) : Nat → Nat := if x.1 = 8 then (fun c => if c = ix (sgO x.2.1 - 8) then t else E c) else E
def lySec (x : Nd) : Int32 := if x.1 = 6 then x.2.2.1 else x.2.2.2
def layT (N : List Nd) : Nat → Nat → Int32 → Nat → (Nat → Nat) → List Th
  | 0, _, _, _, _ => []
  | f + 1, i, u, t, E =>
    let x := nd N i
    let A := if x.2.2.1 < 0 then [] else layT N f (ix x.2.2.1) (nI t) (t + 1) (lyE x t E)
    let B := if lySec x < 0 then [] else layT N f (ix (lySec x)) (nI t) (t + 1 + A.length) (lyE x t E)
    (x.1, x.2.1, u, (if x.2.2.1 < 0 then -1 else nI (t + 1)), (if lySec x < 0 then -1 else nI (t + 1 + A.length)), E (ix (sgO x.2.1 - 8))) :: (A ++ B)
/-- the steps: into a thing, its insides, out of it -/
def stT (N : List Nd) : Nat → Nat → Nat → List Int32
  | 0, _, _ => []
  | f + 1, i, t =>
    let x := nd N i
    let A := if x.2.2.1 < 0 then [] else stT N f (ix x.2.2.1) (t + 1)
    let B := if lySec x < 0 then [] else stT N f (ix (lySec x)) (t + 1 + A.length / 2)
    nI t :: (A ++ (B ++ [nI t ^^^ (-1)]))
def cntK (k : Int32) (A : List Th) : Nat := A.countP (fun x => decide (x.1 = k))
theorem cntK_app (k : Int32) (A B : List Th) : cntK k (A ++ B) = cntK k A + cntK k B := List.countP_append
theorem cntK_cons (k : Int32) (x : Th) (A : List Th) : cntK k (x :: A) = (if x.1 = k then 1 else 0) + cntK k A := by
  unfold cntK
  rw [List.countP_cons]
  by_cases hx : x.1 = k
  · simp [hx]; omega
  · simp [hx]
/-- what the class writes as a thing's mark -/
def mkC (W : Nat → Int32) (r s : Nat) (A : List Th) (j : Nat) (x : Th) : Int32 :=
  if x.1 = 1 then nI (r + cntK 1 (A.take j)) else if x.1 = 8 then nI (s + cntK 8 (A.take j)) else if x.1 = 2 ∨ x.1 = 4 ∨ x.1 = 5 then (if sgO x.2.1 < 8 then sgO x.2.1 else W x.2.2.2.2.2) else x.2.1
def frL (h h' : mvH) (t sc : Nat) : Prop := (∀ q, ¬ (q = 3 ∨ q = 16 ∨ q = 17 ∨ q = 18 ∨ q = 19 ∨ q = 20 ∨ q = 21) → h' q = h q) ∧ (∀ j, ¬ (j = 7 ∨ j = 8 ∨ j = 9 ∨ j = 10) → h' 3 j = h 3 j) ∧ (∀ q, (q = 16 ∨ q = 17 ∨ q = 18 ∨ q = 19 ∨ q = 20) → ∀ j, j < t → h' q j = h q j) ∧ ∀ j, j < sc → h' 21 j = h 21 j
theorem frL.rfl {h : mvH} {t sc : Nat} : frL h h t sc := ⟨fun _ _ => Eq.refl _, fun _ _ => Eq.refl _, fun _ _ _ _ => Eq.refl _, fun _ _ => Eq.refl _⟩
theorem frL.trans {a b c : mvH} {t t2 sc sc2 : Nat} (h1 : frL a b t sc) (h2 : frL b c t2 sc2) (ht : t ≤ t2) (hs : sc ≤ sc2) : frL a c t sc :=
  ⟨fun q hq => (h2.1 q hq).trans (h1.1 q hq), fun j hj => (h2.2.1 j hj).trans (h1.2.1 j hj), fun q hq j hj => (h2.2.2.1 q hq j (by omega)).trans (h1.2.2.1 q hq j hj), fun j hj => (h2.2.2.2 j (by omega)).trans (h1.2.2.2 j hj)⟩
section LY
variable {d : Nat} {h : mvH} {Q : Option mvV → mvH → Prop}
def cWo (h : mvH) (x : Int32) : Int32 := if x - 8 < 0 then x else if 8 ≤ x - 8 then x else h 22 (ix (x - 8))
theorem s_X3_wireOf (hd : 1 ≤ d) (x : Int32) (hQ : Q (some (.inl (cWo h x))) h) : mvCal mvMT d 46 [.inr 3, .inl x] h Q := by
  obtain ⟨d, rfl⟩ := d_pos hd (by decide)
  refine ⟨⟨rfl, by decide, rfl⟩, Nat.le_of_ble_eq_true rfl, fun K hK => hK _ _ _ _ ⟨fun e => ?_, fun e => ⟨fun e2 => ?_, fun e2 => ?_⟩⟩⟩
  · repeat refine hK _ _ _ _ ?_
    exact ⟨trivial, mvq hQ (by simp [cWo, e])⟩
  · refine hK _ _ _ _ ⟨vp_in_i e e2 (by decide), ?_⟩
    repeat refine hK _ _ _ _ ?_
    exact ⟨trivial, mvq hQ (by simp [cWo, e, Int32.not_le.mpr e2])⟩
  · repeat refine hK _ _ _ _ ?_
    exact ⟨trivial, mvq hQ (by simp [cWo, e, Int32.not_lt.mp e2])⟩
theorem s_X3_bind (hd : 2 ≤ d) {c : Nat} (hc : c < 8) (w : Int32) (hQ : Q (some (.inl (h 22 c))) (hset h 22 c w)) : mvCal mvMT d 45 [.inr 3, .inl (8 + nI c), .inl w] h Q := by
  obtain ⟨d, rfl⟩ := d_pos hd (by decide)
  have e8 : (8 : Int32) + nI c - 8 = nI c := by rw [Int32.add_comm, Int32.add_sub_cancel]
  have h0 : ¬ nI c < 0 := nI_pos (by omega)
  have h8 : ¬ (8 : Int32) ≤ nI c := nI_ge (b := 8) hc (by decide)
  refine ⟨⟨rfl, by decide, rfl⟩, Nat.le_of_ble_eq_true rfl, fun K hK => hK _ _ _ _ ?_⟩
  refine s_X3_wireOf (by omega) _ ?_
  conv => whnf
  unfold cWo
  rw [e8, if_neg h0, if_neg h8, ix_nI (by omega)]
  refine ⟨fun e => absurd e h0, fun _ => ⟨fun e => absurd e h8, fun _ => ⟨vp_in_nI hc (by decide), ?_⟩⟩⟩
  rw [nI_clamp (by omega)]
  exact hK _ _ _ _ ⟨trivial, hQ⟩
theorem s_X3_addStep (hd : 1 ≤ d) {sc : Nat} (hs : h 3 8 = nI sc) (hs2 : sc < 240) (v : Int32) (hQ : Q none (hset (hset h 21 sc v) 3 8 (nI (sc + 1)))) : mvCal mvMT d 43 [.inr 3, .inl v] h Q := by
  obtain ⟨d, rfl⟩ := d_pos hd (by decide)
  refine ⟨⟨rfl, by decide, rfl⟩, Nat.le_of_ble_eq_true rfl, fun K hK => hK _ _ _ _ ⟨fun e => absurd e (by rw [hs]; exact nI_ge (b := 240) hs2 (by decide)), fun _ => ⟨by rw [hs]; exact vp_in_nI hs2 (by decide), ?_⟩⟩⟩
  rw [hs, nI_clamp (by omega)]
  have c3 : (hset h 21 sc v) 3 8 = nI sc := by rw [hset_other (by decide), hs]
  conv => whnf
  rw [c3, nI_1]
  exact hK _ _ _ _ hQ
theorem s_X3_lay_neg (hd : 1 ≤ d) (u : Int32) (x : Int32) (hx : x < 0) (hQ : Q (some (.inl (-1))) h) : mvCal mvMT d 42 [.inr 3, .inr 2, .inl x, .inl u] h Q := by
  obtain ⟨d, rfl⟩ := d_pos hd (by decide)
  refine ⟨⟨rfl, by decide, rfl⟩, Nat.le_of_ble_eq_true rfl, fun K hK => hK _ _ _ _ ⟨fun _ => ?_, fun e => absurd hx e⟩⟩
  exact hK _ _ _ _ ⟨trivial, hQ⟩
end LY
theorem stT_len (N : List Nd) : ∀ f i t u E, (stT N f i t).length = 2 * (layT N f i u t E).length := by
  intro f
  induction f with
  | zero => intro i t u E; rfl
  | succ f ih =>
    intro i t u E
    unfold stT layT
    dsimp only
    have hA : ∀ (c : Prop) [Decidable c] j t' u' E', (if c then ([] : List Int32) else stT N f j t').length = 2 * (if c then ([] : List Th) else layT N f j u' t' E').length := by
      intro c _ j t' u' E'
      split
      · rfl
      · exact ih j t' u' E'
    have h1 := hA ((nd N i).2.2.1 < 0) (ix (nd N i).2.2.1) (t + 1) (nI t) (lyE (nd N i) t E)
    simp only [List.length_cons, List.length_append, List.length_nil]
    rw [h1, show 2 * (if (nd N i).2.2.1 < 0 then ([] : List Th) else layT N f (ix (nd N i).2.2.1) (nI t) (t + 1) (lyE (nd N i) t E)).length / 2 = (if (nd N i).2.2.1 < 0 then ([] : List Th) else layT N f (ix (nd N i).2.2.1) (nI t) (t + 1) (lyE (nd N i) t E)).length by omega]
    rw [hA (lySec (nd N i) < 0) (ix (lySec (nd N i))) _ (nI t) (lyE (nd N i) t E)]
    omega

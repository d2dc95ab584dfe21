/-! THE WORLD of the small machine: its cells at their addresses. -/
def mvtv (ad : Nat → Nat) : mvV → Value
  | .inl x => .int x
  | .inr q => .ref (ad q)
theorem mvtv_cat (ad : Nat → Nat) (v : mvV) : (mvtv ad v).category = 1 := by cases v <;> rfl
def mvFs (ad : Nat → Nat) (h : mvH) (q : Nat) : Nat → List Nat → List Value
  | _, [] => []
  | k, (n + 2) :: fs => .ref (ad n) :: mvFs ad h q (k + 1) fs
  | k, _ :: fs => .int (h q k) :: mvFs ad h q (k + 1) fs
def mvCe (ad : Nat → Nat) (cI cC : ClassId) (h : mvH) (q : Nat) : va_E := match mvObj q with
  | some (ci, fs) => .inr (ci, mvFs ad h q 0 fs)
  | none => match mvArr q with
    | some (n, 1) => .inl (cC, n, .inl (h q))
    | some (n, _) => .inl (cI, n, .inl (h q))
    | none => .inl (cI, 0, .inl (h q))
def mvW (ad : Nat → Nat) (cI cC : ClassId) (h : mvH) : va_W := (List.range mvNC).map (fun q => (ad q, mvCe ad cI cC h q))
theorem mvW_get {ad : Nat → Nat} {cI cC : ClassId} {h : mvH} {q : Nat} (hq : q < mvNC) : (mvW ad cI cC h)[q]? = some (ad q, mvCe ad cI cC h q) := by
  simp [mvW, hq]
theorem mvFs_congr {ad : Nat → Nat} {h h' : mvH} {q : Nat} (e : h' q = h q) : ∀ (fs : List Nat) (k : Nat), mvFs ad h' q k fs = mvFs ad h q k fs := by
  intro fs
  induction fs with
  | nil => intro k; rfl
  | cons f fs ih =>
    intro k
    match f with
    | 0 => simp only [mvFs, e, ih]
    | 1 => simp only [mvFs, e, ih]
    | n + 2 => simp only [mvFs, ih]
theorem mvCe_congr {ad : Nat → Nat} {cI cC : ClassId} {h h' : mvH} {q : Nat} (e : h' q = h q) : mvCe ad cI cC h' q = mvCe ad cI cC h q := by
  unfold mvCe
  rw [e]
  cases mvObj q with
  | none => rfl
  | some x => simp only [mvFs_congr e]
theorem mvW_set {ad : Nat → Nat} {cI cC : ClassId} {h h' : mvH} {q : Nat} {x : va_E} (he : mvCe ad cI cC h' q = x) (ho : ∀ j, j ≠ q → h' j = h j) : (mvW ad cI cC h).set q (ad q, x) = mvW ad cI cC h' := by
  apply List.ext_getElem?
  intro j
  rw [List.getElem?_set]
  by_cases hj : q = j
  · subst hj
    by_cases hl : q < mvNC
    · simp [mvW, hl, he]
    · simp [mvW, hl]
  · rw [if_neg hj]
    by_cases hl : j < mvNC
    · rw [mvW_get hl, mvW_get hl, mvCe_congr (ho j (Ne.symm hj))]
    · simp [mvW, hl]
def mvA (ad : Nat → Nat) : Nat → Prop := fun x => ∃ q, q < mvNC ∧ x = ad q
def mvAd (ad : Nat → Nat) : Prop := ∀ i j, i < mvNC → j < mvNC → ad i = ad j → i = j
theorem mvW_D {ad : Nat → Nat} {cI cC : ClassId} {h : mvH} (ha : mvAd ad) : va_D (mvA ad) (mvW ad cI cC h) := by
  have key : ∀ (k : Nat) (q : Nat × va_E), (mvW ad cI cC h)[k]? = some q → k < mvNC ∧ q.1 = ad k := by
    intro k q hk
    by_cases hl : k < mvNC
    · rw [mvW_get hl] at hk
      cases hk
      exact ⟨hl, rfl⟩
    · simp [mvW, hl] at hk
  refine ⟨fun i j p q hi hj e => ?_, fun k q hk => ⟨k, key k q hk⟩⟩
  obtain ⟨h1, h2⟩ := key i p hi
  obtain ⟨h3, h4⟩ := key j q hj
  exact ha i j h1 h3 (by rw [← h2, ← h4, e])
def mvTy (cI cC : ClassId) : List (ClassId × FieldType) := [(cI, .int), (cC, .char)]
def mvIn : Nat → Int32
  | 0 => 1431677610
  | 1 => 859032780
  | 2 => 252702960
  | _ => 16776960
def mvZ (ad : Nat → Nat) (U : State) : Prop := va_Z "ReactWires$Wires" "INPUT_WIRES" "[I" (.ref (ad mvNC)) (mvA ad) U U.heap ∧ va_T .int (ad mvNC) 4 (fun j => .int (mvIn j)) (mvA ad) U U.heap
def mvWd (D : va_G) (cI cC : ClassId) (ad : Nat → Nat) (h : mvH) (H : Heap) : Prop := va_P D vwCl (mvW ad cI cC h) H ∧ ∀ j, j < 4 → h mvNC j = mvIn j
/-- locals -/
def mvLs (ad : Nat → Nat) (nL : Nat) (L : mvL) (ls : Array Slot) : Prop := ls.size = nL ∧ lv_wf ls ∧ ∀ (i : Nat) (v : mvV), mvget L i = some (some v) → ls[i]? = some (.val (mvtv ad v))
theorem mvset_spec {α : Type} : ∀ (L : List α) (a : Nat) (v : α) (k : List α → Prop), mvset L a v k → ∃ L', k L' ∧ a < L.length ∧ L'.length = L.length ∧ ∀ i, mvget L' i = if i = a then some v else mvget L i := by
  intro L
  induction L with
  | nil => intro a v k h; exact h.elim
  | cons x L ih =>
    intro a v k h
    match a with
    | 0 =>
      refine ⟨v :: L, h, Nat.succ_pos _, rfl, fun i => ?_⟩
      match i with
      | 0 => rfl
      | i + 1 => simp [mvget]
    | a + 1 =>
      obtain ⟨L', h1, h2, h3, h4⟩ := ih a v _ h
      refine ⟨x :: L', h1, Nat.succ_lt_succ h2, by simp [h3], fun i => ?_⟩
      match i with
      | 0 => simp [mvget]
      | i + 1 => simp [mvget, h4]
theorem mvset_mono {α : Type} {k k' : List α → Prop} (hk : ∀ L, k L → k' L) : ∀ {L : List α} {a : Nat} {v : α}, mvset L a v k → mvset L a v k' := by
  intro L
  induction L generalizing k k' with
  | nil => intro a v h; exact h.elim
  | cons x L ih =>
    intro a v h
    match a, h with
    | 0, h => exact hk _ h
    | a + 1, h => exact ih (k := fun ys => k (x :: ys)) (k' := fun ys => k' (x :: ys)) (fun L z => hk _ z) h
theorem mvLs_store {ad : Nat → Nat} {nL : Nat} {L L' : mvL} {ls : Array Slot} {a : Nat} {v : mvV} (h : mvLs ad nL L ls) (ha : a < nL) (hL : ∀ i, mvget L' i = if i = a then some (some v) else mvget L i) : ∃ ls', storeLocals ls a (mvtv ad v) = some ls' ∧ mvLs ad nL L' ls' := by
  have hl : ∀ (l : List (Nat × Value)), (∀ q ∈ l, ls[q.1]? = some (.val q.2)) → lv_has ls nL l := fun l hq => ⟨h.1, h.2.1, hq⟩
  obtain ⟨ls', e, h0⟩ := lv_store1 (v := mvtv ad v) (hl [] (fun q hq => by cases hq)) ha (mvtv_cat ad v)
  refine ⟨ls', e, h0.1, h0.2.1, fun i w hi => ?_⟩
  rw [hL] at hi
  by_cases hia : i = a
  · subst hia
    rw [if_pos rfl] at hi
    cases hi
    exact h0.2.2 (i, mvtv ad v) (by simp)
  · rw [if_neg hia] at hi
    obtain ⟨ls2, e2, h2⟩ := lv_store1 (v := mvtv ad v) (hl [(i, mvtv ad w)] (fun q hq => by rw [List.mem_singleton.mp hq]; exact h.2.2 i w hi)) ha (mvtv_cat ad v)
    cases e.symm.trans e2
    refine h2.2.2 (i, mvtv ad w) ?_
    refine List.mem_cons_of_mem _ (List.mem_filter.mpr ⟨List.mem_singleton.mpr rfl, ?_⟩)
    have hc := mvtv_cat ad w
    simp [hia, hc]

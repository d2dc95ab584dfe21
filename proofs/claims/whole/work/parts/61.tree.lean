/-! THE PROGRAM'S THINGS are a tree: what the layout gives -/
def tA (A : List Th) (t : Nat) : Th := A.getD t (0, 0, -1, -1, -1, 0)
theorem tA_get {A : List Th} {t : Nat} {x : Th} (h : A[t]? = some x) : tA A t = x := by unfold tA; rw [List.getD_eq_getElem?_getD, h]; rfl
theorem tA_some {A : List Th} {t : Nat} (h : t < A.length) : A[t]? = some (tA A t) := by unfold tA; rw [List.getD_eq_getElem?_getD, List.getElem?_eq_getElem h]; rfl
def thK (x : Th) : Prop :=
  ((x.1 = 0 ∨ x.1 = 1 ∨ x.1 = 2 ∨ x.1 = 3) ∧ x.2.2.2.1 = -1 ∧ x.2.2.2.2.1 = -1) ∨ ((x.1 = 5 ∨ x.1 = 7 ∨ x.1 = 8) ∧ ¬ x.2.2.2.1 = -1 ∧ x.2.2.2.2.1 = -1) ∨ ((x.1 = 4 ∨ x.1 = 6 ∨ x.1 = 9 ∨ x.1 = 10) ∧ ¬ x.2.2.2.1 = -1 ∧ ¬ x.2.2.2.2.1 = -1)
def thS (x : Th) : Prop := (x.1 = 2 → ¬ sgO x.2.1 < 4) ∧ (x.1 = 4 ∨ x.1 = 5 → ¬ sgO x.2.1 < 0) ∧ (x.1 = 3 → 2 ≤ x.2.1 ∧ x.2.1 ≤ 5) ∧ (x.1 = 8 → ¬ sgO x.2.1 < 8) ∧ (¬ sgO x.2.1 = -1 → x.1 = 2 ∨ x.1 = 4 ∨ x.1 = 5 ∨ x.1 = 8)
/-- a segment of things, from place t on, inside u -/
def SG (X : List Th) (t : Nat) (u : Int32) (ow : Nat → Prop) : Prop := ∀ (j : Nat) (x : Th), X[j]? = some x →
  (j = 0 → x.2.2.1 = u) ∧ (0 < j → ∃ p y, p < j ∧ x.2.2.1 = nI (t + p) ∧ X[p]? = some y ∧ (y.2.2.2.1 = nI (t + j) ∨ y.2.2.2.2.1 = nI (t + j))) ∧
  (x.2.2.2.1 = -1 ∨ ∃ a y, j < a ∧ x.2.2.2.1 = nI (t + a) ∧ X[a]? = some y ∧ y.2.2.1 = nI (t + j)) ∧
  (x.2.2.2.2.1 = -1 ∨ ∃ a b y, j < a ∧ a < b ∧ x.2.2.2.1 = nI (t + a) ∧ x.2.2.2.2.1 = nI (t + b) ∧ X[b]? = some y ∧ y.2.2.1 = nI (t + j)) ∧
  thK x ∧ thS x ∧ ((x.1 = 2 ∨ x.1 = 4 ∨ x.1 = 5) → ¬ sgO x.2.1 < 8 → (∃ o y, x.2.2.2.2.2 = t + o ∧ X[o]? = some y ∧ y.1 = 8) ∨ ow x.2.2.2.2.2)
theorem SG_app {X Y : List Th} {t : Nat} {u : Int32} {o1 o2 : Nat → Prop} {hd : Th} {s1 s2 : Bool} (hX : (s1 = false ∧ X = []) ∨ (s1 = true ∧ X ≠ [] ∧ SG X (t + 1) (nI t) o1)) (hY : (s2 = false ∧ Y = []) ∨ (s2 = true ∧ Y ≠ [] ∧ SG Y (t + 1 + X.length) (nI t) o2)) (hs : s2 = true → s1 = true)
    (hu : hd.2.2.1 = u) (h1 : hd.2.2.2.1 = if s1 = true then nI (t + 1) else -1) (h2 : hd.2.2.2.2.1 = if s2 = true then nI (t + 1 + X.length) else -1) (hk : thK hd) (hsg : thS hd) {ow : Nat → Prop} (how : (hd.1 = 2 ∨ hd.1 = 4 ∨ hd.1 = 5) → ¬ sgO hd.2.1 < 8 → ow hd.2.2.2.2.2) (ho1 : ∀ o, o1 o → (o = t ∧ hd.1 = 8) ∨ ow o) (ho2 : ∀ o, o2 o → (o = t ∧ hd.1 = 8) ∨ ow o) : SG (hd :: (X ++ Y)) t u ow := by
  have gX : ∀ (j : Nat) (x : Th), X[j]? = some x → (hd :: (X ++ Y))[j + 1]? = some x := by
    intro j x hx
    have hj := (List.getElem?_eq_some_iff.mp hx).1
    rw [List.getElem?_cons_succ, List.getElem?_append_left hj]; exact hx
  have gY : ∀ (j : Nat) (x : Th), Y[j]? = some x → (hd :: (X ++ Y))[X.length + j + 1]? = some x := by
    intro j x hx
    rw [List.getElem?_cons_succ, List.getElem?_append_right (by omega), show X.length + j - X.length = j by omega]; exact hx
  intro j x hx
  match j, hx with
  | 0, hx =>
    simp at hx
    subst hx
    refine ⟨fun _ => hu, fun z => by omega, ?_, ?_, hk, hsg, fun z1 z2 => Or.inr (how z1 z2)⟩
    · rcases hX with ⟨e, -⟩ | ⟨e, hne, hX⟩
      · rw [h1, e]; exact Or.inl rfl
      · obtain ⟨y, hy⟩ : ∃ y, X[0]? = some y := by
          match X, hne with
          | y :: _, _ => exact ⟨y, rfl⟩
        refine Or.inr ⟨1, y, by omega, by rw [h1, e]; rfl, gX 0 y hy, ?_⟩
        rw [Nat.add_zero]
        exact (hX 0 y hy).1 rfl
    · rcases hY with ⟨e, -⟩ | ⟨e, hne, hY⟩
      · rw [h2, e]; exact Or.inl rfl
      · obtain ⟨y, hy⟩ : ∃ y, Y[0]? = some y := by
          match Y, hne with
          | y :: _, _ => exact ⟨y, rfl⟩
        have e1 := hs e
        have hX1 : X ≠ [] := by
          rcases hX with ⟨z, -⟩ | ⟨-, z, -⟩
          · rw [e1] at z; cases z
          · exact z
        have hXl : 0 < X.length := List.length_pos_iff.mpr hX1
        refine Or.inr ⟨1, X.length + 1, y, by omega, by omega, by rw [h1, e1]; rfl, by rw [h2, e, if_pos rfl]; congr 1; omega, gY 0 y hy, ?_⟩
        rw [Nat.add_zero]
        exact (hY 0 y hy).1 rfl
  | j + 1, hx =>
    have hx : (X ++ Y)[j]? = some x := by simpa using hx
    by_cases hj : j < X.length
    · rw [List.getElem?_append_left hj] at hx
      rcases hX with ⟨-, e⟩ | ⟨e, hne, hX⟩
      · rw [e] at hj; simp at hj
      · obtain ⟨a1, a2, a3, a4, a5, a6, a7⟩ := hX j x hx
        refine ⟨fun z => by omega, fun _ => ?_, ?_, ?_, a5, a6, fun z1 z2 => ?_⟩
        · by_cases h0 : j = 0
          · subst h0
            refine ⟨0, hd, by omega, by rw [a1 rfl, Nat.add_zero], rfl, Or.inl ?_⟩
            rw [h1, e]; rfl
          · obtain ⟨p, y, hp, e1, e2, e3⟩ := a2 (by omega)
            refine ⟨p + 1, y, by omega, by rw [e1]; congr 1; omega, gX p y e2, ?_⟩
            rw [show t + (j + 1) = t + 1 + j by omega]; exact e3
        · rcases a3 with z | ⟨a, y, ha, e1, e2, e3⟩
          · exact Or.inl z
          · exact Or.inr ⟨a + 1, y, by omega, by rw [e1]; congr 1; omega, gX a y e2, by rw [e3]; congr 1; omega⟩
        · rcases a4 with z | ⟨a, b, y, ha, hb, e0, e1, e2, e3⟩
          · exact Or.inl z
          · exact Or.inr ⟨a + 1, b + 1, y, by omega, by omega, by rw [e0]; congr 1; omega, by rw [e1]; congr 1; omega, gX b y e2, by rw [e3]; congr 1; omega⟩
        · rcases a7 z1 z2 with ⟨o, y, e1, e2, e3⟩ | z
          · exact Or.inl ⟨o + 1, y, by rw [e1]; omega, gX o y e2, e3⟩
          · rcases ho1 _ z with ⟨w1, w2⟩ | w
            · exact Or.inl ⟨0, hd, by rw [w1]; omega, rfl, w2⟩
            · exact Or.inr w
    · obtain ⟨k, rfl⟩ : ∃ k, j = X.length + k := ⟨j - X.length, by omega⟩
      rw [List.getElem?_append_right (by omega), show X.length + k - X.length = k by omega] at hx
      rcases hY with ⟨-, e⟩ | ⟨e, hne, hY⟩
      · rw [e] at hx; simp at hx
      · obtain ⟨a1, a2, a3, a4, a5, a6, a7⟩ := hY _ x hx
        refine ⟨fun z => by omega, fun _ => ?_, ?_, ?_, a5, a6, fun z1 z2 => ?_⟩
        · by_cases h0 : k = 0
          · subst h0
            refine ⟨0, hd, by omega, by rw [a1 rfl, Nat.add_zero], rfl, Or.inr ?_⟩
            rw [h2, e, if_pos rfl]; congr 1; omega
          · obtain ⟨p, y, hp, e1, e2, e3⟩ := a2 (by omega)
            refine ⟨X.length + p + 1, y, by omega, by rw [e1]; congr 1; omega, gY p y e2, ?_⟩
            rw [show t + (X.length + k + 1) = t + 1 + X.length + k by omega]; exact e3
        · rcases a3 with z | ⟨a, y, ha, e1, e2, e3⟩
          · exact Or.inl z
          · exact Or.inr ⟨X.length + a + 1, y, by omega, by rw [e1]; congr 1; omega, gY a y e2, by rw [e3]; congr 1; omega⟩
        · rcases a4 with z | ⟨a, b, y, ha, hb, e0, e1, e2, e3⟩
          · exact Or.inl z
          · exact Or.inr ⟨X.length + a + 1, X.length + b + 1, y, by omega, by omega, by rw [e0]; congr 1; omega, by rw [e1]; congr 1; omega, gY b y e2, by rw [e3]; congr 1; omega⟩
        · rcases a7 z1 z2 with ⟨o, y, e1, e2, e3⟩ | z
          · exact Or.inl ⟨X.length + o + 1, y, by rw [e1]; omega, gY o y e2, e3⟩
          · rcases ho2 _ z with ⟨w1, w2⟩ | w
            · exact Or.inl ⟨0, hd, by rw [w1]; omega, rfl, w2⟩
            · exact Or.inr w
theorem ndK_thS {x : Nd} {i : Nat} (h : ndK x i) : (x.1 = 2 → ¬ sgO x.2.1 < 4) ∧ (x.1 = 4 ∨ x.1 = 5 → ¬ sgO x.2.1 < 0) ∧ (x.1 = 3 → 2 ≤ x.2.1 ∧ x.2.1 ≤ 5) ∧ (x.1 = 8 → ¬ sgO x.2.1 < 8) ∧ (¬ sgO x.2.1 = -1 → x.1 = 2 ∨ x.1 = 4 ∨ x.1 = 5 ∨ x.1 = 8) := by
  have lt0 : ∀ c : Int32, ¬ sgO c = -1 → ¬ sgO c < 0 := by
    intro c hc z
    rcases sgO_cases c with w | ⟨j, hj, w, -⟩ | ⟨j, hj, w, -⟩
    · exact hc w
    · rw [w] at z; exact nI_pos (by omega) z
    · rw [w, show (8 : Int32) = nI 8 by decide, nI_add] at z; exact nI_pos (by omega) z
  have sm : ∀ v : Nat, v < 6 → sgO (nI v) = -1 := by decide +kernel
  obtain ⟨k, c, a, b⟩ := x
  rcases h with ⟨e, w⟩ | ⟨e, w⟩ | ⟨e, w1, w⟩ | ⟨e, w1, w2, w⟩ | ⟨⟨e, w1⟩ | ⟨e, w1⟩ | ⟨e, w1⟩ | ⟨e, w1⟩, j, hj, w⟩ | ⟨⟨e, w1⟩ | ⟨e, w1⟩ | ⟨e, w1⟩, j, j2, hj, hj2, w⟩
  all_goals dsimp only at *
  all_goals subst e
  · cases w; refine ⟨fun z => absurd z (by decide), fun z => absurd z (by decide), fun z => absurd z (by decide), fun z => absurd z (by decide), fun z => absurd (by decide) z⟩
  · cases w; refine ⟨fun z => absurd z (by decide), fun z => absurd z (by decide), fun z => absurd z (by decide), fun z => absurd z (by decide), fun z => absurd (by decide) z⟩
  · exact ⟨fun _ => w1, fun z => absurd z (by decide), fun z => absurd z (by decide), fun z => absurd z (by decide), fun _ => by decide⟩
  · refine ⟨fun z => absurd z (by decide), fun z => absurd z (by decide), fun _ => ⟨w1, w2⟩, fun z => absurd z (by decide), fun z => ?_⟩
    obtain ⟨v, hv, rfl⟩ := nI_of2 (x := c) (M := 5) (n := 5) (by decide) (Int32.not_lt.mpr (Int32.le_tr (by decide) w1)) w2
    exact absurd (sm v (by omega)) z
  · exact ⟨fun z => absurd z (by decide), fun _ => lt0 c w1, fun z => absurd z (by decide), fun z => absurd z (by decide), fun _ => by decide⟩
  · subst w1; refine ⟨fun z => absurd z (by decide), fun z => absurd z (by decide), fun z => absurd z (by decide), fun z => absurd z (by decide), fun z => absurd (by decide) z⟩
  · subst w1; refine ⟨fun z => absurd z (by decide), fun z => absurd z (by decide), fun z => absurd z (by decide), fun z => absurd z (by decide), fun z => absurd (by decide) z⟩
  · exact ⟨fun z => absurd z (by decide), fun z => absurd z (by decide), fun z => absurd z (by decide), fun _ => w1, fun _ => by decide⟩
  · exact ⟨fun z => absurd z (by decide), fun _ => lt0 c w1, fun z => absurd z (by decide), fun z => absurd z (by decide), fun _ => by decide⟩
  · subst w1; refine ⟨fun z => absurd z (by decide), fun z => absurd z (by decide), fun z => absurd z (by decide), fun z => absurd z (by decide), fun z => absurd (by decide) z⟩
  · subst w1; refine ⟨fun z => absurd z (by decide), fun z => absurd z (by decide), fun z => absurd z (by decide), fun z => absurd z (by decide), fun z => absurd (by decide) z⟩
theorem lay_SG {N : List Nd} {Lb : Nat → Nat → Prop} {a : Nat} (hs : rdS [] N a) (hok : NdOK N Lb) : ∀ f i (u : Int32) t E, i < f → i < N.length → t + (layT N f i u t E).length < 2 ^ 31 → SG (layT N f i u t E) t u (fun o => ∃ c, c < 8 ∧ Lb i c ∧ o = E c) ∧ layT N f i u t E ≠ [] := by
  intro f
  induction f with
  | zero => intro i u t E hi; omega
  | succ f ih =>
    intro i u t E hi hiN hlen
    have hx0 := nd_get hiN
    have hk := (hs.2.2.2 i _ (Nat.zero_le _) hx0).1
    have hNi := hok.2 i hiN
    have hN60 := hok.1
    unfold layT at hlen ⊢
    dsimp only at hlen ⊢
    generalize hxe : nd N i = x at *
    generalize hA : (if x.2.2.1 < 0 then ([] : List Th) else layT N f (ix x.2.2.1) (nI t) (t + 1) (lyE x t E)) = A at *
    generalize hB : (if lySec x < 0 then ([] : List Th) else layT N f (ix (lySec x)) (nI t) (t + 1 + A.length) (lyE x t E)) = B at *
    simp only [List.length_cons, List.length_append] at hlen
    refine ⟨?_, by simp⟩
    have hsec : lySec x = -1 ∨ ∃ j, j < i ∧ lySec x = nI j ∧ ∀ c, Lb j c → Lb i c ∨ (x.1 = 8 ∧ sgO x.2.1 = 8 + nI c) := by
      unfold lySec
      split
      · exact hNi.1
      · exact hNi.2.1
    have sub : ∀ (y : Int32) (X : List Th) (t' : Nat), (y = -1 ∨ ∃ j, j < i ∧ y = nI j ∧ ∀ c, Lb j c → Lb i c ∨ (x.1 = 8 ∧ sgO x.2.1 = 8 + nI c)) → (if y < 0 then ([] : List Th) else layT N f (ix y) (nI t) t' (lyE x t E)) = X → t' + X.length < 2 ^ 31 → ((decide (¬ y < 0) = false ∧ X = []) ∨ (decide (¬ y < 0) = true ∧ X ≠ [] ∧ SG X t' (nI t) (fun o => (o = t ∧ x.1 = 8) ∨ ∃ c, c < 8 ∧ Lb i c ∧ o = E c))) := by
      intro y X t' hy hX hl
      rcases hy with rfl | ⟨j, hj, rfl, hLj⟩
      · left
        exact ⟨by decide, by rw [← hX]; rfl⟩
      · right
        have hj0 : ¬ nI j < 0 := nI_pos (by omega)
        rw [if_neg hj0, ix_nI (by omega)] at hX
        rw [← hX] at hl
        obtain ⟨i1, i2⟩ := ih j (nI t) t' (lyE x t E) (by omega) (by omega) hl
        rw [hX] at i1 i2
        refine ⟨by simp [hj0], i2, fun k y hy => ?_⟩
        obtain ⟨a1, a2, a3, a4, a5, a6, a7⟩ := i1 k y hy
        refine ⟨a1, a2, a3, a4, a5, a6, fun z1 z2 => ?_⟩
        rcases a7 z1 z2 with z | ⟨c, hc, hl, e⟩
        · exact Or.inl z
        · right
          unfold lyE at e
          by_cases h8 : x.1 = 8
          · rw [if_pos h8] at e
            by_cases hcc : c = ix (sgO x.2.1 - 8)
            · rw [if_pos hcc] at e; exact Or.inl ⟨e, h8⟩
            · rw [if_neg hcc] at e
              rcases hLj c hl with w | ⟨-, w⟩
              · exact Or.inr ⟨c, hc, w, e⟩
              · exfalso
                apply hcc
                rw [w, Int32.add_comm, Int32.add_sub_cancel, ix_nI (by omega)]
          · rw [if_neg h8] at e
            rcases hLj c hl with w | ⟨w, -⟩
            · exact Or.inr ⟨c, hc, w, e⟩
            · exact absurd w h8
    have s1 := sub _ A (t + 1) hNi.1 hA (by omega)
    have s2 := sub _ B (t + 1 + A.length) hsec hB (by omega)
    have hb1 : decide (¬ x.2.2.1 < 0) = true ↔ ¬ x.2.2.1 < 0 := by simp
    have hb2 : decide (¬ lySec x < 0) = true ↔ ¬ lySec x < 0 := by simp
    have neg1 : ∀ j : Nat, j < i → ¬ nI j < 0 := fun j hj => nI_pos (by omega)
    have shape : (lySec x < 0 ∨ ¬ x.2.2.1 < 0) ∧ ((x.1 = 0 ∨ x.1 = 1 ∨ x.1 = 2 ∨ x.1 = 3) ∧ x.2.2.1 < 0 ∧ lySec x < 0 ∨ (x.1 = 5 ∨ x.1 = 7 ∨ x.1 = 8) ∧ ¬ x.2.2.1 < 0 ∧ lySec x < 0 ∨ (x.1 = 4 ∨ x.1 = 6 ∨ x.1 = 9 ∨ x.1 = 10) ∧ ¬ x.2.2.1 < 0 ∧ ¬ lySec x < 0) := by
      obtain ⟨k, c, l, r⟩ := x
      unfold lySec
      rcases hk with ⟨e, w⟩ | ⟨e, w⟩ | ⟨e, w1, w⟩ | ⟨e, w1, w2, w⟩ | ⟨⟨e, w1⟩ | ⟨e, w1⟩ | ⟨e, w1⟩ | ⟨e, w1⟩, j, hj, w⟩ | ⟨⟨e, w1⟩ | ⟨e, w1⟩ | ⟨e, w1⟩, j, j2, hj, hj2, w⟩
      all_goals dsimp only at e w ⊢
      all_goals subst e
      all_goals cases w
      · rw [if_neg (show ¬ (0 : Int32) = 6 by decide)]; exact ⟨Or.inl (by decide), Or.inl (by decide)⟩
      · rw [if_neg (show ¬ (1 : Int32) = 6 by decide)]; exact ⟨Or.inl (by decide), Or.inl (by decide)⟩
      · rw [if_neg (show ¬ (2 : Int32) = 6 by decide)]; exact ⟨Or.inl (by decide), Or.inl (by decide)⟩
      · rw [if_neg (show ¬ (3 : Int32) = 6 by decide)]; exact ⟨Or.inl (by decide), Or.inl (by decide)⟩
      · rw [if_neg (show ¬ (5 : Int32) = 6 by decide)]; exact ⟨Or.inl (by decide), Or.inr (Or.inl ⟨by decide, neg1 j hj, by decide⟩)⟩
      · exact ⟨Or.inr (neg1 j hj), Or.inr (Or.inr ⟨by decide, neg1 j hj, by rw [if_pos rfl]; exact neg1 j hj⟩)⟩
      · rw [if_neg (show ¬ (7 : Int32) = 6 by decide)]; exact ⟨Or.inl (by decide), Or.inr (Or.inl ⟨by decide, neg1 j hj, by decide⟩)⟩
      · rw [if_neg (show ¬ (8 : Int32) = 6 by decide)]; exact ⟨Or.inl (by decide), Or.inr (Or.inl ⟨by decide, neg1 j hj, by decide⟩)⟩
      · exact ⟨Or.inr (neg1 j (by omega)), Or.inr (Or.inr ⟨by decide, neg1 j (by omega), by rw [if_neg (by decide)]; exact neg1 j2 hj2⟩)⟩
      · exact ⟨Or.inr (neg1 j (by omega)), Or.inr (Or.inr ⟨by decide, neg1 j (by omega), by rw [if_neg (by decide)]; exact neg1 j2 hj2⟩)⟩
      · exact ⟨Or.inr (neg1 j (by omega)), Or.inr (Or.inr ⟨by decide, neg1 j (by omega), by rw [if_neg (by decide)]; exact neg1 j2 hj2⟩)⟩
    have nn : ∀ k : Nat, k < 2 ^ 31 → ¬ nI k = -1 := fun k hk => nI_nm1 hk
    refine SG_app s1 s2 (fun z => hb1.mpr (shape.1.resolve_left (hb2.mp z))) rfl ?_ ?_ ?_ ?_ ?_ (fun o z => z) (fun o z => z)
    · dsimp only
      by_cases z : x.2.2.1 < 0
      · simp [z]
      · simp [z]
    · dsimp only
      by_cases z : lySec x < 0
      · simp [z]
      · simp [z]
    · unfold thK
      dsimp only
      rcases shape.2 with ⟨e, z1, z2⟩ | ⟨e, z1, z2⟩ | ⟨e, z1, z2⟩
      · exact Or.inl ⟨e, by rw [if_pos z1], by rw [if_pos z2]⟩
      · exact Or.inr (Or.inl ⟨e, by rw [if_neg z1]; exact nn _ (by omega), by rw [if_pos z2]⟩)
      · exact Or.inr (Or.inr ⟨e, by rw [if_neg z1]; exact nn _ (by omega), by rw [if_neg z2]; exact nn _ (by omega)⟩)
    · exact ndK_thS hk
    · intro z1 z2
      dsimp only at z1 z2 ⊢
      obtain ⟨c, hc, e, hl⟩ := (hNi.2.2.2 z1).2 z2
      refine ⟨c, hc, hl, ?_⟩
      rw [e, Int32.add_comm, Int32.add_sub_cancel, ix_nI (by omega)]

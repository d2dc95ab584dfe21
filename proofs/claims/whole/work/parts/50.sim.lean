/-! THE REFERENCE reads what the grammar reads: units, PAR, SEQ -/
section SM
variable {tx : Nat → Int32} {n : Nat} {F : Option (List Nd × Nat × Int32) → Prop} {G : Nat → Bool → mSt → Int32 → Prop} {NF : List Nd} {T L : Nat → Int32}
def asR (NF : List Nd) (T L : Nat → Int32) (O : List (Int32 × Int32)) (N N' : List Nd) (a : Nat) (as as' : Int32) : Prop := N' <+: NF → T a = nI (trO O) → L a = lO O → (as' = 1 ↔ as = 1 ∨ lieR NF T L N.length N'.length)
def asL (NF : List Nd) (T L : Nat → Int32) (O : List (Int32 × Int32)) (N N' : List Nd) (l a : Nat) (as as' : Int32) : Prop := N' <+: NF → T a = nI (trO O) → L a = lO O → (T l = nI (trO O) ∧ L l = lO O) ∧ (as' = 1 ↔ as = 1 ∨ lieR NF T L N.length N'.length)
def SimU (tx : Nat → Int32) (n : Nat) (F : Option (List Nd × Nat × Int32) → Prop) (G : Nat → Bool → mSt → Int32 → Prop) (NF : List Nd) (T L : Nat → Int32) (f : Nat) : Prop :=
  ∀ p O R N as, p ≤ n → dpO O + f = 12 → R.length = cntB O → wfO O → N.length ≤ p → (as = 0 ∨ as = 1) →
    (rdU tx n f p N = none → F none → G p true (O, R, N) as) ∧
    (∀ p' N' a, rdU tx n f p N = some (p', N', a) → (∀ as', (as' = 0 ∨ as' = 1) → asR NF T L O N N' a as as' → G p' false (closeS O (a :: R) N') as') → G p true (O, R, N) as)
/-- a base: nothing of it closes or joins by '|' -/
def bas (B : List (Int32 × Int32)) : Prop := topO B = 0 ∧ B = [] ∨ topO B = 40 ∨ topO B = 123 ∨ topO B = 59
def bas2 (B : List (Int32 × Int32)) : Prop := B = [] ∨ topO B = 40 ∨ topO B = 123
theorem bas_close {B : List (Int32 × Int32)} (h : bas B) (R : List Nat) (N : List Nd) : closeS B R N = (B, R, N) ∧ joinS false B R N = (B, R, N) ∧ ¬ topO B = 63 := by
  rcases h with ⟨h, hB⟩ | h
  · subst hB
    exact ⟨rfl, rfl, by rw [h]; decide⟩
  · have hc : ∃ c l O', B = (c, l) :: O' ∧ (c = 40 ∨ c = 123 ∨ c = 59) := by
      rcases h with z | z | z
      · obtain ⟨l, O', e⟩ := topO_cons z (by decide); exact ⟨_, l, O', e, Or.inl rfl⟩
      · obtain ⟨l, O', e⟩ := topO_cons z (by decide); exact ⟨_, l, O', e, Or.inr (Or.inl rfl)⟩
      · obtain ⟨l, O', e⟩ := topO_cons z (by decide); exact ⟨_, l, O', e, Or.inr (Or.inr rfl)⟩
    obtain ⟨c, l, O', e, hc⟩ := hc
    subst e
    have h1 : ¬ (c = 38 ∨ c = 42 ∨ c = 92) := by rcases hc with z | z | z <;> rw [z] <;> decide
    have h2 : ¬ c = 58 := by rcases hc with z | z | z <;> rw [z] <;> decide
    have h3 : ¬ (c = 124 ∨ (false = true ∧ c = 59)) := by rcases hc with z | z | z <;> rw [z] <;> decide
    refine ⟨?_, ?_, ?_⟩
    · unfold closeS; rw [if_neg h1, if_neg h2]
    · unfold joinS; rw [if_neg h3]
    · show ¬ c = 63
      rcases hc with z | z | z <;> rw [z] <;> decide
theorem bas2_join {B : List (Int32 × Int32)} (h : bas2 B) (R : List Nat) (N : List Nd) : joinS true B R N = (B, R, N) ∧ bas B := by
  rcases h with hB | h
  · subst hB; exact ⟨rfl, Or.inl ⟨rfl, rfl⟩⟩
  · refine ⟨?_, ?_⟩
    · have hc : ∃ c l O', B = (c, l) :: O' ∧ (c = 40 ∨ c = 123) := by
        rcases h with z | z
        · obtain ⟨l, O', e⟩ := topO_cons z (by decide); exact ⟨_, l, O', e, Or.inl rfl⟩
        · obtain ⟨l, O', e⟩ := topO_cons z (by decide); exact ⟨_, l, O', e, Or.inr rfl⟩
      obtain ⟨c, l, O', e, hc⟩ := hc
      subst e
      have h3 : ¬ (c = 124 ∨ (true = true ∧ c = 59)) := by rcases hc with z | z <;> rw [z] <;> decide
      unfold joinS; rw [if_neg h3]
    · rcases h with z | z
      · exact Or.inr (Or.inl z)
      · exact Or.inr (Or.inr (Or.inl z))
theorem stp_f {k : Nat} {O : List (Int32 × Int32)} {R : List Nat} {N : List Nd} {as : Int32} : stp tx n k false (O, R, N) as = match bhS (tx k) O R N with
    | none => none
    | some (w', s') => some (k + 1, w', s', as) := by
  unfold stp
  rw [if_neg (by decide)]
  rfl
theorem edge_of (hE : ∀ (i : Nat) (x : Nd), NF[i]? = some x → ∀ j, j < i → (x.2.2.1 = nI j ∨ x.2.2.2 = nI j) → edgT T L x i j) {N : List Nd} {x : Nd} (h : (N ++ [x]) <+: NF) {j : Nat} (hj : j < N.length) (hc : x.2.2.1 = nI j ∨ x.2.2.2 = nI j) (h7 : ¬ x.1 = 7) (h8 : ¬ x.1 = 8) : T j = T N.length ∧ L j = L N.length := by
  have := hE _ _ (pf_get h) j hj hc
  unfold edgT at this
  rw [if_neg h7, if_neg h8, Int32.add_zero, Int32.or_zero] at this
  exact this
theorem lie_no {N : List Nd} {x : Nd} (h : (N ++ [x]) <+: NF) (hk : ¬ (x.1 = 3 ∨ x.1 = 2 ∨ x.1 = 4 ∨ x.1 = 5)) : ¬ lieR NF T L N.length (N ++ [x]).length := by
  rw [lieR_one h]
  unfold cLr
  rw [if_neg (fun z => hk (Or.inl z)), if_neg (fun z => hk (Or.inr z))]
  decide
/-- the loop of PAR -/
theorem sim_pl (hG : RdC tx n F G) (hn : n ≤ 60) (hE : ∀ (i : Nat) (x : Nd), NF[i]? = some x → ∀ j, j < i → (x.2.2.1 = nI j ∨ x.2.2.2 = nI j) → edgT T L x i j) {f : Nat} (hU : SimU tx n F G NF T L f) {B : List (Int32 × Int32)} (hB : bas B) {R : List Nat} (hR : R.length = cntB B) (hd : dpO B + f = 12) (hw : wfO B) :
    ∀ m l p N O' R' N0 as, joinS false O' R' N0 = (B, l :: R, N) → ¬ topO O' = 63 → p ≤ n → 60 ≤ p + m → l < N.length → N.length ≤ p → (as = 0 ∨ as = 1) →
      (rdPl tx n (rdU tx n f) 10 124 m l p N = none → F none → G p false (O', R', N0) as) ∧
      (∀ p' N' a, rdPl tx n (rdU tx n f) 10 124 m l p N = some (p', N', a) → (∀ as' O2 R2 N2, (as' = 0 ∨ as' = 1) → joinS false O2 R2 N2 = (B, a :: R, N') → ¬ topO O2 = 63 → (p' < n → ¬ tx p' = 124) → asL NF T L B N N' l a as as' → G p' false (O2, R2, N2) as') → G p false (O', R', N0) as) := by
  intro m
  induction m with
  | zero =>
    intro l p N O' R' N0 as hj ht hp hm hl hNp h01
    unfold rdPl
    refine ⟨fun h => (by cases h), fun p' N' a h hg => ?_⟩
    cases h
    exact hg as O' R' N0 h01 hj ht (fun z => by omega) (fun _ h1 h2 => ⟨⟨h1, h2⟩, ⟨Or.inl, fun z => z.resolve_right (fun ⟨k, a, b, _⟩ => by omega)⟩⟩)
  | succ m ih =>
    intro l p N O' R' N0 as hj ht hp hm hl hNp h01
    unfold rdPl
    by_cases hc : p < n ∧ tx p = 124
    · rw [if_pos hc]
      have hstep : G (p + 1) true ((124, 0) :: B, l :: R, N) as → G p false (O', R', N0) as := by
        refine hG.2.1 p false (O', R', N0) as (p + 1) true ((124, 0) :: B, l :: R, N) as hc.1 ?_
        rw [stp_f]
        have : bhS (tx p) O' R' N0 = some (true, ((124, 0) :: B, l :: R, N)) := by
          unfold bhS
          rw [hc.2, if_neg (by decide), if_pos (Or.inl rfl), if_neg ht, show decide ((124 : Int32) = 59) = false by decide, hj]
        rw [this]
      have hu := hU (p + 1) ((124, 0) :: B) (l :: R) N as hc.1 (by rw [dpO_cons]; simpa using hd) (by rw [cntB_cons]; simp; exact hR) (wfO_cons hw (fun z => absurd z (by decide))) (by omega) h01
      have hok := rdU_ok (tx := tx) (n := n) f (p + 1) N hc.1
      match hr : rdU tx n f (p + 1) N with
      | none =>
        dsimp only
        exact ⟨fun _ hF => hstep (hu.1 hr hF), fun p' N' a h => by cases h⟩
      | some (p2, N2, r) =>
        dsimp only
        rw [hr] at hok
        obtain ⟨k1, k2, k3, k4, k5⟩ := hok
        have hcl : closeS ((124, 0) :: B) (r :: l :: R) N2 = ((124, 0) :: B, r :: l :: R, N2) := by
          unfold closeS
          rw [if_neg (by decide), if_neg (by decide)]
        have hjn : joinS false ((124, 0) :: B) (r :: l :: R) N2 = (B, N2.length :: R, N2 ++ [(10, 0, nI l, nI r)]) := by
          rw [joinS, if_pos (Or.inl rfl), if_pos rfl]
          exact (bas_close hB _ _).2.1
        have ihs := fun as2 (h2 : as2 = 0 ∨ as2 = 1) => ih N2.length p2 (N2 ++ [(10, 0, nI l, nI r)]) ((124, 0) :: B) (r :: l :: R) N2 as2 hjn (by show ¬ (124 : Int32) = 63; decide) k2 (by omega) (by simp) (by simp; omega) h2
        refine ⟨fun h hF => hstep (hu.2 p2 N2 r hr (fun as2 h2 hr2 => ?_)), fun p' N' a h hg => hstep (hu.2 p2 N2 r hr (fun as2 h2 hr2 => ?_))⟩
        · rw [hcl]
          exact (ihs as2 h2).1 h hF
        · rw [hcl]
          refine (ihs as2 h2).2 p' N' a h (fun as' O2 R2 N3 h01' e1 e2 e3 hL => ?_)
          refine hg as' O2 R2 N3 h01' e1 e2 e3 (fun hpf hTa hLa => ?_)
          obtain ⟨⟨q1, q2⟩, q3⟩ := hL hpf hTa hLa
          have hpre : (N2 ++ [(10, 0, nI l, nI r)]) <+: N' := rdR_pl rd_pre (rdR_unit (tx := tx) (n := n) rd_pre f) (Or.inr rfl) (N0 := N2 ++ [(10, 0, nI l, nI r)]) (f := f) m _ _ _ (List.prefix_refl _) _ _ _ h
          have hpf2 := hpre.trans hpf
          have hlen := hpre.length_le
          have el := edge_of hE hpf2 (j := l) (by omega) (Or.inl rfl) (by dsimp only; decide) (by dsimp only; decide)
          have er := edge_of hE hpf2 (j := r) (by omega) (Or.inr rfl) (by dsimp only; decide) (by dsimp only; decide)
          refine ⟨⟨el.1.trans q1, el.2.trans q2⟩, ?_⟩
          have hr3 := hr2 ((List.prefix_append _ _).trans hpf2) (by rw [er.1, q1, trO_cons]; rfl) (by rw [er.2, q2]; simp only [lO]; rw [if_neg (by decide), Int32.or_zero])
          simp only [List.length_append, List.length_cons, List.length_nil] at q3 hlen
          rw [q3, hr3, lieR_split (i := N.length) (j := N2.length) (k := N'.length) (by omega) (by omega), lieR_split (i := N2.length) (j := N2.length + (0 + 1)) (k := N'.length) (by omega) (by omega)]
          have hno := lie_no (T := T) (L := L) hpf2 (by dsimp only; decide)
          simp only [List.length_append, List.length_cons, List.length_nil] at hno
          constructor
          · intro z
            rcases z with (z | z) | z
            · exact Or.inl z
            · exact Or.inr (Or.inl z)
            · exact Or.inr (Or.inr (Or.inr z))
          · intro z
            rcases z with z | z | z | z
            · exact Or.inl (Or.inl z)
            · exact Or.inl (Or.inr z)
            · exact absurd z hno
            · exact Or.inr z
    · rw [if_neg hc]
      refine ⟨fun h => (by cases h), fun p' N' a h hg => ?_⟩
      cases h
      exact hg as O' R' N0 h01 hj ht (fun z1 z2 => hc ⟨z1, z2⟩) (fun _ h1 h2 => ⟨⟨h1, h2⟩, ⟨Or.inl, fun z => z.resolve_right (fun ⟨k, a, b, _⟩ => by omega)⟩⟩)
theorem sim_par (hG : RdC tx n F G) (hn : n ≤ 60) (hE : ∀ (i : Nat) (x : Nd), NF[i]? = some x → ∀ j, j < i → (x.2.2.1 = nI j ∨ x.2.2.2 = nI j) → edgT T L x i j) {f : Nat} (hU : SimU tx n F G NF T L f) {B : List (Int32 × Int32)} (hB : bas B) {R : List Nat} (hR : R.length = cntB B) (hd : dpO B + f = 12) (hw : wfO B) {p : Nat} {N : List Nd} {as : Int32} (hp : p ≤ n) (hNp : N.length ≤ p) (h01 : as = 0 ∨ as = 1) :
      (rdPar tx n (rdU tx n f) p N = none → F none → G p true (B, R, N) as) ∧
      (∀ p' N' a, rdPar tx n (rdU tx n f) p N = some (p', N', a) → (∀ as' O2 R2 N2, (as' = 0 ∨ as' = 1) → joinS false O2 R2 N2 = (B, a :: R, N') → ¬ topO O2 = 63 → (p' < n → ¬ tx p' = 124) → asR NF T L B N N' a as as' → G p' false (O2, R2, N2) as') → G p true (B, R, N) as) := by
  have hu := hU p B R N as hp hd hR hw hNp h01
  have hok := rdU_ok (tx := tx) (n := n) f p N hp
  unfold rdPar
  match hr : rdU tx n f p N with
  | none => exact ⟨fun _ hF => hu.1 hr hF, fun p' N' a h => by cases h⟩
  | some (p1, N1, l) =>
    dsimp only
    rw [hr] at hok
    obtain ⟨k1, k2, k3, k4, k5⟩ := hok
    obtain ⟨b1, b2, b3⟩ := bas_close hB (l :: R) N1
    have hpl := fun as2 (h2 : as2 = 0 ∨ as2 = 1) => sim_pl hG hn hE hU hB hR hd hw 60 l p1 N1 B (l :: R) N1 as2 b2 b3 k2 (by omega) (by omega) (by omega) h2
    refine ⟨fun h hF => hu.2 p1 N1 l hr (fun as2 h2 hr2 => ?_), fun p' N' a h hg => hu.2 p1 N1 l hr (fun as2 h2 hr2 => ?_)⟩
    · rw [b1]; exact (hpl as2 h2).1 h hF
    · rw [b1]
      refine (hpl as2 h2).2 p' N' a h (fun as' O2 R2 N3 h01' e1 e2 e3 hL => hg as' O2 R2 N3 h01' e1 e2 e3 (fun hpf hTa hLa => ?_))
      obtain ⟨⟨q1, q2⟩, q3⟩ := hL hpf hTa hLa
      have hpre : N1 <+: N' := rdR_pl rd_pre (rdR_unit (tx := tx) (n := n) rd_pre f) (Or.inr rfl) (N0 := N1) (f := f) 60 _ _ _ (List.prefix_refl _) _ _ _ h
      rw [q3, hr2 (hpre.trans hpf) q1 q2, lieR_split (i := N.length) (j := N1.length) (k := N'.length) (by omega) hpre.length_le, or_assoc]
theorem dec59 : decide ((59 : Int32) = 59) = true := by decide
/-- the loop of SEQ -/
theorem sim_sl (hG : RdC tx n F G) (hn : n ≤ 60) (hE : ∀ (i : Nat) (x : Nd), NF[i]? = some x → ∀ j, j < i → (x.2.2.1 = nI j ∨ x.2.2.2 = nI j) → edgT T L x i j) {f : Nat} (hU : SimU tx n F G NF T L f) {B : List (Int32 × Int32)} (hB : bas2 B) {R : List Nat} (hR : R.length = cntB B) (hd : dpO B + f = 12) (hw : wfO B) :
    ∀ m l p N O' R' N0 as, joinS true O' R' N0 = (B, l :: R, N) → ¬ topO O' = 63 → (p < n → ¬ tx p = 124) → p ≤ n → 60 ≤ p + m → l < N.length → N.length ≤ p → (as = 0 ∨ as = 1) →
      (rdPl tx n (rdPar tx n (rdU tx n f)) 9 59 m l p N = none → F none → G p false (O', R', N0) as) ∧
      (∀ p' N' a, rdPl tx n (rdPar tx n (rdU tx n f)) 9 59 m l p N = some (p', N', a) → (∀ as' O2 R2 N2, (as' = 0 ∨ as' = 1) → joinS true O2 R2 N2 = (B, a :: R, N') → ¬ topO O2 = 63 → (p' < n → ¬ tx p' = 124 ∧ ¬ tx p' = 59) → asL NF T L B N N' l a as as' → G p' false (O2, R2, N2) as') → G p false (O', R', N0) as) := by
  intro m
  induction m with
  | zero =>
    intro l p N O' R' N0 as hj ht h124 hp hm hl hNp h01
    unfold rdPl
    refine ⟨fun h => (by cases h), fun p' N' a h hg => ?_⟩
    cases h
    exact hg as O' R' N0 h01 hj ht (fun z => by omega) (fun _ h1 h2 => ⟨⟨h1, h2⟩, ⟨Or.inl, fun z => z.resolve_right (fun ⟨k, a, b, _⟩ => by omega)⟩⟩)
  | succ m ih =>
    intro l p N O' R' N0 as hj ht h124 hp hm hl hNp h01
    unfold rdPl
    by_cases hc : p < n ∧ tx p = 59
    · rw [if_pos hc]
      have hstep : G (p + 1) true ((59, 0) :: B, l :: R, N) as → G p false (O', R', N0) as := by
        refine hG.2.1 p false (O', R', N0) as (p + 1) true ((59, 0) :: B, l :: R, N) as hc.1 ?_
        rw [stp_f]
        have : bhS (tx p) O' R' N0 = some (true, ((59, 0) :: B, l :: R, N)) := by
          unfold bhS
          rw [hc.2, if_neg (by decide), if_pos (Or.inr rfl), if_neg ht, dec59, hj]
        rw [this]
      have hu := sim_par hG hn hE hU (B := (59, 0) :: B) (Or.inr (Or.inr (Or.inr rfl))) (R := l :: R) (by rw [cntB_cons]; simp; exact hR) (by rw [dpO_cons]; simpa using hd) (wfO_cons hw (fun z => absurd z (by decide))) (p := p + 1) (N := N) (as := as) hc.1 (by omega) h01
      have hok := rdPar_ok (tx := tx) (rdU_ok (tx := tx) (n := n) f) (p + 1) N hc.1
      match hr : rdPar tx n (rdU tx n f) (p + 1) N with
      | none =>
        dsimp only
        exact ⟨fun _ hF => hstep (hu.1 hr hF), fun p' N' a h => by cases h⟩
      | some (p2, N2, r) =>
        dsimp only
        rw [hr] at hok
        obtain ⟨k1, k2, k3, k4, k5⟩ := hok
        have hjn : ∀ O2 R2 N3, joinS false O2 R2 N3 = ((59, 0) :: B, r :: l :: R, N2) → joinS true O2 R2 N3 = (B, N2.length :: R, N2 ++ [(9, 0, nI l, nI r)]) := by
          intro O2 R2 N3 e
          rw [join_tf, e]
          dsimp only
          rw [joinS, if_pos (Or.inr ⟨rfl, rfl⟩), if_neg (by decide)]
          exact (bas2_join hB _ _).1
        have ihs := fun as2 (h2 : as2 = 0 ∨ as2 = 1) O2 R2 N3 e1 e2 e3 => ih N2.length p2 (N2 ++ [(9, 0, nI l, nI r)]) O2 R2 N3 as2 (hjn O2 R2 N3 e1) e2 e3 k2 (by omega) (by simp) (by simp; omega) h2
        refine ⟨fun h hF => hstep (hu.2 p2 N2 r hr (fun as2 O2 R2 N3 h2 e1 e2 e3 hr2 => ?_)), fun p' N' a h hg => hstep (hu.2 p2 N2 r hr (fun as2 O2 R2 N3 h2 e1 e2 e3 hr2 => ?_))⟩
        · exact (ihs as2 h2 O2 R2 N3 e1 e2 e3).1 h hF
        · refine (ihs as2 h2 O2 R2 N3 e1 e2 e3).2 p' N' a h (fun as' O4 R4 N4 h01' e1 e2 e3 hL => ?_)
          refine hg as' O4 R4 N4 h01' e1 e2 e3 (fun hpf hTa hLa => ?_)
          obtain ⟨⟨q1, q2⟩, q3⟩ := hL hpf hTa hLa
          have hpre : (N2 ++ [(9, 0, nI l, nI r)]) <+: N' := rdR_pl rd_pre (rdR_par rd_pre (rdR_unit (tx := tx) (n := n) rd_pre f)) (Or.inl rfl) (N0 := N2 ++ [(9, 0, nI l, nI r)]) (f := f) m _ _ _ (List.prefix_refl _) _ _ _ h
          have hpf2 := hpre.trans hpf
          have hlen := hpre.length_le
          have el := edge_of hE hpf2 (j := l) (by omega) (Or.inl rfl) (by dsimp only; decide) (by dsimp only; decide)
          have er := edge_of hE hpf2 (j := r) (by omega) (Or.inr rfl) (by dsimp only; decide) (by dsimp only; decide)
          refine ⟨⟨el.1.trans q1, el.2.trans q2⟩, ?_⟩
          have hr3 := hr2 ((List.prefix_append _ _).trans hpf2) (by rw [er.1, q1, trO_cons]; rfl) (by rw [er.2, q2]; simp only [lO]; rw [if_neg (by decide), Int32.or_zero])
          simp only [List.length_append, List.length_cons, List.length_nil] at q3 hlen
          rw [q3, hr3, lieR_split (i := N.length) (j := N2.length) (k := N'.length) (by omega) (by omega), lieR_split (i := N2.length) (j := N2.length + (0 + 1)) (k := N'.length) (by omega) (by omega)]
          have hno := lie_no (T := T) (L := L) hpf2 (by dsimp only; decide)
          simp only [List.length_append, List.length_cons, List.length_nil] at hno
          constructor
          · intro z
            rcases z with (z | z) | z
            · exact Or.inl z
            · exact Or.inr (Or.inl z)
            · exact Or.inr (Or.inr (Or.inr z))
          · intro z
            rcases z with z | z | z | z
            · exact Or.inl (Or.inl z)
            · exact Or.inl (Or.inr z)
            · exact absurd z hno
            · exact Or.inr z
    · rw [if_neg hc]
      refine ⟨fun h => (by cases h), fun p' N' a h hg => ?_⟩
      cases h
      exact hg as O' R' N0 h01 hj ht (fun z1 => ⟨h124 z1, fun z2 => hc ⟨z1, z2⟩⟩) (fun _ h1 h2 => ⟨⟨h1, h2⟩, ⟨Or.inl, fun z => z.resolve_right (fun ⟨k, a, b, _⟩ => by omega)⟩⟩)
theorem sim_seq (hG : RdC tx n F G) (hn : n ≤ 60) (hE : ∀ (i : Nat) (x : Nd), NF[i]? = some x → ∀ j, j < i → (x.2.2.1 = nI j ∨ x.2.2.2 = nI j) → edgT T L x i j) {f : Nat} (hU : SimU tx n F G NF T L f) {B : List (Int32 × Int32)} (hB : bas2 B) {R : List Nat} (hR : R.length = cntB B) (hd : dpO B + f = 12) (hw : wfO B) {p : Nat} {N : List Nd} {as : Int32} (hp : p ≤ n) (hNp : N.length ≤ p) (h01 : as = 0 ∨ as = 1) :
      (rdSeq tx n (rdU tx n f) p N = none → F none → G p true (B, R, N) as) ∧
      (∀ p' N' a, rdSeq tx n (rdU tx n f) p N = some (p', N', a) → (∀ as' O2 R2 N2, (as' = 0 ∨ as' = 1) → joinS true O2 R2 N2 = (B, a :: R, N') → ¬ topO O2 = 63 → (p' < n → ¬ tx p' = 124 ∧ ¬ tx p' = 59) → asR NF T L B N N' a as as' → G p' false (O2, R2, N2) as') → G p true (B, R, N) as) := by
  have hu := sim_par hG hn hE hU (bas2_join hB R N).2 hR hd hw hp hNp h01
  have hok := rdPar_ok (tx := tx) (rdU_ok (tx := tx) (n := n) f) p N hp
  unfold rdSeq
  match hr : rdPar tx n (rdU tx n f) p N with
  | none => exact ⟨fun _ hF => hu.1 hr hF, fun p' N' a h => by cases h⟩
  | some (p1, N1, l) =>
    dsimp only
    rw [hr] at hok
    obtain ⟨k1, k2, k3, k4, k5⟩ := hok
    have hjn : ∀ O2 R2 N3, joinS false O2 R2 N3 = (B, l :: R, N1) → joinS true O2 R2 N3 = (B, l :: R, N1) := by
      intro O2 R2 N3 e
      rw [join_tf, e]
      exact (bas2_join hB _ _).1
    have hpl := fun as2 (h2 : as2 = 0 ∨ as2 = 1) O2 R2 N3 e1 e2 e3 => sim_sl hG hn hE hU hB hR hd hw 60 l p1 N1 O2 R2 N3 as2 (hjn O2 R2 N3 e1) e2 e3 k2 (by omega) (by omega) (by omega) h2
    refine ⟨fun h hF => hu.2 p1 N1 l hr (fun as2 O2 R2 N3 h2 e1 e2 e3 hr2 => ?_), fun p' N' a h hg => hu.2 p1 N1 l hr (fun as2 O2 R2 N3 h2 e1 e2 e3 hr2 => ?_)⟩
    · exact (hpl as2 h2 O2 R2 N3 e1 e2 e3).1 h hF
    · refine (hpl as2 h2 O2 R2 N3 e1 e2 e3).2 p' N' a h (fun as' O4 R4 N4 h01' e1 e2 e3 hL => hg as' O4 R4 N4 h01' e1 e2 e3 (fun hpf hTa hLa => ?_))
      obtain ⟨⟨q1, q2⟩, q3⟩ := hL hpf hTa hLa
      have hpre : N1 <+: N' := rdR_pl rd_pre (rdR_par rd_pre (rdR_unit (tx := tx) (n := n) rd_pre f)) (Or.inl rfl) (N0 := N1) (f := f) 60 _ _ _ (List.prefix_refl _) _ _ _ h
      rw [q3, hr2 (hpre.trans hpf) q1 q2, lieR_split (i := N.length) (j := N1.length) (k := N'.length) (by omega) hpre.length_le, or_assoc]
end SM

/-! WHAT IS SEEN of an instant: what is selected, how many wires are unknown, what is killed, what stays -/
def seVal (A : List Th) (rg : Nat → Bool) (s : Nat → B2) (t : Nat) : B2 := if (tA A t).1 = 1 then (rg (cntK 1 (A.take t)), !rg (cntK 1 (A.take t))) else pOr (seO s (tA A t).2.2.2.1) (seO s (tA A t).2.2.2.2.1)
def seL (A : List Th) (rg : Nat → Bool) : Nat → Nat → B2
  | 0, _ => zB
  | k + 1, u => if u = A.length - 1 - k then seVal A rg (seL A rg k) u else seL A rg k u
def seV (A : List Th) (rg : Nat → Bool) : Nat → B2 := seL A rg A.length
def tot (b : B2) : Prop := b = oB ∨ b = zB
theorem tot_or {a b : B2} (ha : tot a) (hb : tot b) : tot (pOr a b) := by
  rcases ha with rfl | rfl <;> rcases hb with rfl | rfl <;> first | exact Or.inl rfl | exact Or.inr rfl
theorem tot_co {a : B2} (ha : tot a) : bco a := by rcases ha with rfl | rfl; exact oB_co; exact zB_co
theorem seO_tot {s : Nat → B2} (h : ∀ u, tot (s u)) (x : Int32) : tot (seO s x) := by unfold seO; split; exact Or.inr rfl; exact h _
theorem seVal_tot {A : List Th} {rg : Nat → Bool} {s : Nat → B2} (h : ∀ u, tot (s u)) (t : Nat) : tot (seVal A rg s t) := by
  unfold seVal
  split
  · cases rg (cntK 1 (A.take t)); exact Or.inr rfl; exact Or.inl rfl
  · exact tot_or (seO_tot h _) (seO_tot h _)
theorem seL_tot {A : List Th} {rg : Nat → Bool} : ∀ k u, tot (seL A rg k u) := by
  intro k
  induction k with
  | zero => intro u; exact Or.inr rfl
  | succ k ih => intro u; unfold seL; split; exact seVal_tot ih _; exact ih u
theorem seV_tot {A : List Th} {rg : Nat → Bool} (t : Nat) : tot (seV A rg t) := seL_tot _ _
theorem seVal_congr {A : List Th} {rg : Nat → Bool} (hT : TF A) {s s' : Nat → B2} {t : Nat} (ht : t < A.length) (h : ∀ u, t < u → u < A.length → s u = s' u) : seVal A rg s t = seVal A rg s' t := by
  have hA := hT.1
  have key : ∀ x, (x = -1 ∨ ∃ a, t < a ∧ a < A.length ∧ x = nI a) → seO s x = seO s' x := by
    intro x hx
    unfold seO
    rcases hx with rfl | ⟨a, h1, h2, rfl⟩
    · rfl
    · rw [if_neg (nI_pos (by omega)), if_neg (nI_pos (by omega)), ix_nI (by omega)]; exact h a h1 h2
  unfold seVal
  rw [key _ ((tf_at hT ht).2.2.1.imp id (fun ⟨a, h1, h2, h3, _⟩ => ⟨a, h1, h2, h3⟩)), key _ ((tf_at hT ht).2.2.2.1.imp id (fun ⟨a, b, h1, h2, h3, _, h5, _⟩ => ⟨b, by omega, h3, h5⟩))]
theorem seL_eq {A : List Th} {rg : Nat → Bool} (hT : TF A) : ∀ k, k ≤ A.length → ∀ u, A.length - k ≤ u → u < A.length → seL A rg k u = seVal A rg (seL A rg k) u := by
  intro k
  induction k with
  | zero => intro _ u h1 h2; omega
  | succ k ih =>
    intro hk u h1 h2
    have hc : ∀ v, A.length - 1 - k < v → seL A rg (k + 1) v = seL A rg k v := fun v hv => by
      show (if v = A.length - 1 - k then _ else _) = _
      rw [if_neg (by omega)]
    by_cases e : u = A.length - 1 - k
    · have : seL A rg (k + 1) u = seVal A rg (seL A rg k) u := by
        show (if u = A.length - 1 - k then _ else _) = _
        rw [if_pos e]
      rw [this]
      exact seVal_congr hT h2 (fun v hv _ => (hc v (by omega)).symm)
    · rw [hc u (by omega), ih (by omega) u (by omega) h2]
      exact seVal_congr hT h2 (fun v hv _ => (hc v (by omega)).symm)
theorem seV_eq {A : List Th} {rg : Nat → Bool} (hT : TF A) {t : Nat} (ht : t < A.length) : seV A rg t = seVal A rg (seV A rg) t := seL_eq hT A.length (Nat.le_refl _) t (by omega) ht
/-- from the last to the first: what keeps the equations is it -/
theorem seV_uniq {A : List Th} {rg : Nat → Bool} (hT : TF A) {s : Nat → B2} (h : ∀ t, t < A.length → s t = seVal A rg s t) : ∀ t, t < A.length → s t = seV A rg t := by
  have key : ∀ k t, t < A.length → A.length - t ≤ k → s t = seV A rg t := by
    intro k
    induction k with
    | zero => intro t ht hk; omega
    | succ k ih =>
      intro t ht hk
      rw [h t ht, seV_eq hT ht]
      exact seVal_congr hT ht (fun u h1 h2 => ih u h2 (by omega))
  exact fun t ht => key _ t ht (Nat.le_refl _)
/-- the instant's wires -/
def INS (A : List Th) (rg : Nat → Bool) (inp : Nat) (st : Bool) (X : Va) : Prop := LFP (VW A) (FW A (seV A rg) inp st) X
theorem INS_uniq {A : List Th} {rg : Nat → Bool} {inp : Nat} {st : Bool} {X Y : Va} (h1 : INS A rg inp st X) (h2 : INS A rg inp st Y) : eqV (VW A) X Y := LFP_uniq h1 h2
def sumN (f : Nat → Nat) : Nat → Nat
  | 0 => 0
  | n + 1 => sumN f n + f n
theorem sumN_congr {f g : Nat → Nat} : ∀ n, (∀ i, i < n → f i = g i) → sumN f n = sumN g n := by
  intro n
  induction n with
  | zero => intro _; rfl
  | succ n ih => intro h; unfold sumN; rw [ih (fun i hi => h i (by omega)), h n (by omega)]
theorem sumN_le {f : Nat → Nat} {m : Nat} : ∀ n, (∀ i, i < n → f i ≤ m) → sumN f n ≤ m * n := by
  intro n
  induction n with
  | zero => intro _; exact Nat.zero_le _
  | succ n ih => intro h; have h1 := ih (fun i hi => h i (by omega)); have h2 := h n (by omega); unfold sumN; rw [Nat.mul_succ]; omega
def unk (b : B2) : Nat := if b = (false, false) then 1 else 0
theorem unk_le {b : B2} : unk b ≤ 1 := by unfold unk; split <;> omega
def dimT (A : List Th) (X : Va) (t : Nat) : Nat := unk (X 53 t) + (if (tA A t).1 = 8 then unk (X 58 (4 + t)) else 0) + sumN (fun c => unk (X 57 (6 * t + c))) 6
def dimX (A : List Th) (X : Va) : Nat := sumN (dimT A X) A.length + sumN (fun w => unk (X 58 w)) 4
theorem dimT_le {A : List Th} {X : Va} (t : Nat) : dimT A X t ≤ 8 := by
  have h1 := @unk_le (X 53 t)
  have h2 : sumN (fun c => unk (X 57 (6 * t + c))) 6 ≤ 1 * 6 := sumN_le 6 (fun i _ => unk_le)
  unfold dimT
  split
  · have h3 := @unk_le (X 58 (4 + t)); omega
  · omega
theorem dimX_congr {A : List Th} {X Y : Va} (h : eqV (VW A) X Y) : dimX A X = dimX A Y := by
  unfold dimX
  rw [sumN_congr (f := dimT A X) (g := dimT A Y) A.length, sumN_congr (f := fun w => unk (X 58 w)) (g := fun w => unk (Y 58 w)) 4]
  · intro w hw; exact congrArg unk (h 58 w (Or.inr (Or.inr ⟨rfl, Or.inl hw⟩)))
  · intro t ht
    unfold dimT
    rw [h 53 t (vw3 (by decide) ht), sumN_congr (f := fun c => unk (X 57 (6 * t + c))) (g := fun c => unk (Y 57 (6 * t + c))) 6 (fun c hc => congrArg unk (h 57 _ (Or.inr (Or.inl ⟨rfl, by omega⟩))))]
    split
    · rename_i hk
      rw [h 58 (4 + t) (Or.inr (Or.inr ⟨rfl, Or.inr ⟨t, ht, hk, rfl⟩⟩))]
    · rfl
def kil (A : List Th) (X : Va) : Nat → Nat → Bool
  | 0, _ => false
  | f + 1, t => if (tA A t).2.2.1 = -1 then false else (decide ((tA A (ix (tA A t).2.2.1)).1 = 7) && (X 57 (6 * t + 2)).1) || kil A X f (ix (tA A t).2.2.1)
theorem kil_fuel {A : List Th} {X : Va} (hT : TF A) : ∀ f f' t, t < f → t < f' → t < A.length → kil A X f t = kil A X f' t := by
  intro f
  induction f with
  | zero => intro f' t h1; omega
  | succ f ih =>
    intro f' t h1 h2 ht
    obtain ⟨f', rfl⟩ : ∃ m, f' = m + 1 := ⟨f' - 1, by omega⟩
    unfold kil
    by_cases e : (tA A t).2.2.1 = -1
    · rw [if_pos e, if_pos e]
    · rw [if_neg e, if_neg e]
      obtain ⟨p, hp, e1, e2⟩ := tf_up hT ht e
      rw [e2, ih f' p (by omega) (by omega) (by omega)]
theorem kil_congr {A : List Th} {X Y : Va} (hT : TF A) (h : eqV (VW A) X Y) : ∀ f t, t < A.length → kil A X f t = kil A Y f t := by
  intro f
  induction f with
  | zero => intro t _; rfl
  | succ f ih =>
    intro t ht
    unfold kil
    by_cases e : (tA A t).2.2.1 = -1
    · rw [if_pos e, if_pos e]
    · rw [if_neg e, if_neg e]
      obtain ⟨p, hp, e1, e2⟩ := tf_up hT ht e
      rw [e2, ih p (by omega), h 57 (6 * t + 2) (Or.inr (Or.inl ⟨rfl, by omega⟩))]
/-- what a PAUSE's register is next -/
def nxT (A : List Th) (rg : Nat → Bool) (X : Va) (t : Nat) : Bool := ((X 53 t).1 || ((X 55 t).1 && rg (cntK 1 (A.take t)))) && !kil A X 120 t
theorem nxT_congr {A : List Th} {rg : Nat → Bool} {X Y : Va} (hT : TF A) (h : eqV (VW A) X Y) {t : Nat} (ht : t < A.length) : nxT A rg X t = nxT A rg Y t := by
  unfold nxT
  rw [kil_congr hT h 120 t ht, h 53 t (vw3 (by decide) ht), h 55 t (vw3 (by decide) ht)]
def b1I (b : Bool) : Int32 := if b then 1 else 0
theorem enc_unk {x : Int32} (h : v3 x) : unk (enc x) = if x = 2 then 1 else 0 := by rcases h with rfl | rfl | rfl <;> decide
theorem enc_one {x : Int32} (h : v3 x) : (enc x).1 = decide (x = 1) := by rcases h with rfl | rfl | rfl <;> decide
theorem enc_tot {x : Int32} (hx : v3 x) (h : tot (enc x)) : ¬ x = 2 := by
  rintro rfl
  rcases h with h | h <;> cases h
section OB
variable {d : Nat} {h : mvH} {Q : Option mvV → mvH → Prop} {A : List Th} {se : Nat → B2} {inp : Nat} {st : Bool}
theorem nI_if (n : Nat) {p : Prop} [Decidable p] : nI n + (if p then 1 else 0 : Int32) = nI (n + if p then 1 else 0) := by
  split
  · exact nI_add n 1
  · rw [Nat.add_zero]; exact nI_add n 0
set_option maxHeartbeats 4000000 in
theorem s_X5_dim (hd : 2 ≤ d) (hT : TF A) (hm : MS A se inp h) (hv : V3s A h) (hQ : Q (some (.inl (nI (dimX A (EX h))))) h) : mvCal mvMT d 131 [.inr 5] h Q := by
  obtain ⟨d, rfl⟩ := d_pos hd (by decide)
  have hA := hT.1
  have hs := hm.2.1
  refine ⟨⟨rfl, by decide, rfl⟩, Nat.le_of_ble_eq_true rfl, fun K hK => hK _ _ _ _ ?_⟩
  have loop3 : ∀ k i, i + k = 4 → ∀ z3, K 101 [some (.inr 5), some (.inl (nI (sumN (dimT A (EX h)) A.length + sumN (fun w => unk (EX h 58 w)) i))), some (.inl (nI i)), z3] [] h := by
    intro k
    induction k with
    | zero =>
      intro i hi z3
      have hi : i = 4 := by omega
      subst hi
      refine hK _ _ _ _ ⟨fun _ => hK _ _ _ _ ⟨trivial, hQ⟩, fun e => absurd (by decide) e⟩
    | succ k ih =>
      intro i hi z3
      refine hK _ _ _ _ ⟨fun e => absurd e (nI_ge (b := 4) (by omega) (by omega)), fun _ => ⟨vp_in_nI (by omega) (by decide), ?_⟩⟩
      rw [nI_clamp (by omega)]
      have c122 : K 122 [some (.inr 5), some (.inl (nI (sumN (dimT A (EX h)) A.length + sumN (fun w => unk (EX h 58 w)) i))), some (.inl (nI i)), z3] [.inl (if h 58 i = 2 then 1 else 0), .inl (nI (sumN (dimT A (EX h)) A.length + sumN (fun w => unk (EX h 58 w)) i))] h := by
        refine hK _ _ _ _ ?_
        conv => whnf
        rw [nI_1, nI_if]
        have := ih (i + 1) (by omega) z3
        have e : sumN (fun w => unk (EX h 58 w)) (i + 1) = sumN (fun w => unk (EX h 58 w)) i + if h 58 i = 2 then 1 else 0 := by
          show _ + unk (enc (h 58 i)) = _
          rw [enc_unk (hv.2.2 i (by have := hT.2.1; omega))]
        rw [e, ← Nat.add_assoc] at this
        exact this
      refine ⟨fun e => ?_, fun e => ?_⟩
      · rw [if_neg e] at c122
        refine hK _ _ _ _ ?_
        exact c122
      · rw [if_pos e] at c122
        exact c122
  have loop1 : ∀ k i, i + k = A.length → ∀ z3, K 4 [some (.inr 5), some (.inl (nI (sumN (dimT A (EX h)) i))), some (.inl (nI i)), z3] [] h := by
    intro k
    induction k with
    | zero =>
      intro i hi z3
      have hi : i = A.length := by omega
      subst hi
      refine hK _ _ _ _ ⟨fun _ => ?_, fun e => absurd (show h 5 17 ≤ nI A.length by rw [hs]; exact Int32.le_refl _) e⟩
      refine hK _ _ _ _ ?_
      exact loop3 4 0 (by omega) z3
    | succ k ih =>
      intro i hi z3
      have hiN : i < A.length := by omega
      have hin : vp_in (nI i) 120 := vp_in_nI (by omega) (by decide)
      have ei : (nI i).toNatClampNeg = i := nI_clamp (by omega)
      obtain ⟨m43, _, _, _, _, _, _⟩ := MS_at hm hiN
      have loop2 : ∀ k2 c, c + k2 = 6 → ∀ a, a + sumN (fun c => unk (EX h 57 (6 * i + c))) 6 = sumN (dimT A (EX h)) (i + 1) → K 63 [some (.inr 5), some (.inl (nI (a + sumN (fun c => unk (EX h 57 (6 * i + c))) c))), some (.inl (nI i)), some (.inl (nI c))] [] h := by
        intro k2
        induction k2 with
        | zero =>
          intro c hc a ha
          have hc : c = 6 := by omega
          subst hc
          refine hK _ _ _ _ ⟨fun _ => ?_, fun e => absurd (by decide) e⟩
          refine hK _ _ _ _ ?_
          conv => whnf
          rw [nI_1, ha]
          exact ih (i + 1) (by omega) _
        | succ k2 ih2 =>
          intro c hc a ha
          refine hK _ _ _ _ ⟨fun e => absurd e (nI_ge (b := 6) (by omega) (by omega)), fun _ => ?_⟩
          refine s_X5_k (by omega) (a := i) (c := c) (by omega) (by omega) ?_
          have c85 : K 85 [some (.inr 5), some (.inl (nI (a + sumN (fun c => unk (EX h 57 (6 * i + c))) c))), some (.inl (nI i)), some (.inl (nI c))] [.inl (if h 57 (6 * i + c) = 2 then 1 else 0), .inl (nI (a + sumN (fun c => unk (EX h 57 (6 * i + c))) c))] h := by
            refine hK _ _ _ _ ?_
            conv => whnf
            rw [nI_1, nI_if]
            have := ih2 (c + 1) (by omega) a ha
            have e : sumN (fun c => unk (EX h 57 (6 * i + c))) (c + 1) = sumN (fun c => unk (EX h 57 (6 * i + c))) c + if h 57 (6 * i + c) = 2 then 1 else 0 := by
              show _ + unk (enc (h 57 (6 * i + c))) = _
              rw [enc_unk (hv.2.1 (6 * i + c) (by omega))]
            rw [e, ← Nat.add_assoc] at this
            exact this
          refine ⟨fun e => ?_, fun e => ?_⟩
          · rw [if_neg e] at c85
            refine hK _ _ _ _ ?_
            exact c85
          · rw [if_pos e] at c85
            exact c85
      refine hK _ _ _ _ ⟨fun e => absurd (show h 5 17 ≤ nI i from e) (by rw [hs]; exact nI_ge hiN (by omega)), fun _ => ⟨hin, ?_⟩⟩
      rw [ei]
      have e53 : unk (EX h 53 i) = if h 53 i = 2 then 1 else 0 := enc_unk (hv.1 53 (by decide) i hiN)
      have e58 : unk (EX h 58 (4 + i)) = if h 58 (4 + i) = 2 then 1 else 0 := enc_unk (hv.2.2 (4 + i) (by omega))
      have eD : sumN (dimT A (EX h)) (i + 1) = sumN (dimT A (EX h)) i + (if h 53 i = 2 then 1 else 0) + (if (tA A i).1 = 8 ∧ h 58 (4 + i) = 2 then 1 else 0) + sumN (fun c => unk (EX h 57 (6 * i + c))) 6 := by
        have q : dimT A (EX h) i = (if h 53 i = 2 then 1 else 0) + (if (tA A i).1 = 8 ∧ h 58 (4 + i) = 2 then 1 else 0) + sumN (fun c => unk (EX h 57 (6 * i + c))) 6 := by
          unfold dimT
          rw [e53, e58]
          congr 2
          by_cases u : (tA A i).1 = 8
          · rw [if_pos u]
            by_cases w : h 58 (4 + i) = 2
            · rw [if_pos w, if_pos ⟨u, w⟩]
            · rw [if_neg w, if_neg (fun z => w z.2)]
          · rw [if_neg u, if_neg (fun z => u z.1)]
        show _ + dimT A (EX h) i = _
        rw [q]
        omega
      have e4 : (4 : Int32) + nI i = nI (4 + i) := nI_add 4 i
      have c28 : K 28 [some (.inr 5), some (.inl (nI (sumN (dimT A (EX h)) i))), some (.inl (nI i)), z3] [.inl (if h 53 i = 2 then 1 else 0), .inl (nI (sumN (dimT A (EX h)) i))] h := by
        refine hK _ _ _ _ ?_
        conv => whnf
        rw [nI_if]
        have b59 : K 59 [some (.inr 5), some (.inl (nI (sumN (dimT A (EX h)) i + if h 53 i = 2 then 1 else 0))), some (.inl (nI i)), z3] [.inl (if (tA A i).1 = 8 ∧ h 58 (4 + i) = 2 then 1 else 0), .inl (nI (sumN (dimT A (EX h)) i + if h 53 i = 2 then 1 else 0))] h := by
          refine hK _ _ _ _ ?_
          conv => whnf
          rw [nI_if]
          have := loop2 6 0 (by omega) _ eD.symm
          exact this
        generalize (sumN (dimT A (EX h)) i + if h 53 i = 2 then 1 else 0) = n1 at b59 ⊢
        refine ⟨hin, ?_⟩
        rw [ei, m43]
        refine ⟨fun e => ?_, fun e => ?_⟩
        · rw [if_neg (fun z => e z.1)] at b59
          refine hK _ _ _ _ ?_
          exact b59
        · conv => whnf
          rw [e4]
          refine ⟨vp_in_nI (by omega) (by decide), ?_⟩
          rw [nI_clamp (by omega)]
          refine ⟨fun e2 => ?_, fun e2 => ?_⟩
          · rw [if_neg (fun z => e2 z.2)] at b59
            refine hK _ _ _ _ ?_
            exact b59
          · rw [if_pos ⟨e, e2⟩] at b59
            exact b59
      refine ⟨fun e => ?_, fun e => ?_⟩
      · rw [if_neg e] at c28
        refine hK _ _ _ _ ?_
        exact c28
      · rw [if_pos e] at c28
        exact c28
  exact loop1 A.length 0 (by omega) _
theorem s_X5_killed (hd : 2 ≤ d) (hT : TF A) (hm : MS A se inp h) (hv : V3s A h) {t : Nat} (ht : t < A.length) (hQ : Q (some (.inl (b1I (kil A (EX h) 120 t)))) h) : mvCal mvMT d 130 [.inr 5, .inl (nI t)] h Q := by
  obtain ⟨d, rfl⟩ := d_pos hd (by decide)
  have hA := hT.1
  refine ⟨⟨rfl, by decide, rfl⟩, Nat.le_of_ble_eq_true rfl, fun K hK => hK _ _ _ _ ?_⟩
  have loop : ∀ f s b, s < f → s < A.length → (b || kil A (EX h) f s) = kil A (EX h) 120 t → K 4 [some (.inr 5), some (.inl (nI t)), some (.inl (b1I b)), some (.inl (nI s))] [] h := by
    intro f
    induction f with
    | zero => intro s b h1; omega
    | succ f ih =>
      intro s b h1 hs he
      have hin : vp_in (nI s) 120 := vp_in_nI (by omega) (by decide)
      have ei : (nI s).toNatClampNeg = s := nI_clamp (by omega)
      obtain ⟨_, _, m45, _, _, _, _⟩ := MS_at hm hs
      refine hK _ _ _ _ ⟨hin, ?_⟩
      rw [ei, m45]
      unfold kil at he
      by_cases e : (tA A s).2.2.1 = -1
      · rw [if_pos e, Bool.or_false] at he
        rw [e]
        refine ⟨fun _ => hK _ _ _ _ ⟨?_, ?_⟩, fun q => absurd (by decide) q⟩
        · cases b; exact Or.inl rfl; exact Or.inr rfl
        · rw [he]; exact hQ
      · rw [if_neg e] at he
        obtain ⟨p, hp, e1, e2⟩ := tf_up hT hs e
        rw [e2] at he
        obtain ⟨m43, _, _, _, _, _, _⟩ := MS_at hm (show p < A.length by omega)
        rw [e1]
        have c48 : K 48 [some (.inr 5), some (.inl (nI t)), some (.inl (b1I b)), some (.inl (nI s))] [.inl (b1I (b || (decide ((tA A p).1 = 7) && (EX h 57 (6 * s + 2)).1)))] h := by
          refine hK _ _ _ _ ⟨hin, ?_⟩
          rw [ei, m45, e1]
          exact ih p _ (by omega) (by omega) (by rw [Bool.or_assoc]; exact he)
        refine ⟨fun q => absurd q (nI_pos (by omega)), fun _ => ?_⟩
        cases b with
        | true =>
          refine ⟨fun _ => ?_, fun q => absurd (show b1I true = 0 from q) (by decide)⟩
          refine hK _ _ _ _ ?_
          exact c48
        | false =>
          refine ⟨fun q => absurd rfl q, fun _ => ⟨hin, ?_⟩⟩
          rw [ei, m45, e1]
          refine ⟨vp_in_nI (by omega) (by decide), ?_⟩
          rw [nI_clamp (by omega), m43]
          refine ⟨fun q => ?_, fun q => ?_⟩
          · rw [decide_eq_false q, Bool.false_and] at c48
            refine hK _ _ _ _ ?_
            exact c48
          · rw [decide_eq_true q, Bool.true_and] at c48
            refine s_X5_k (by omega) (a := s) (c := 2) (by omega) (by decide) ?_
            have e57 : (EX h 57 (6 * s + 2)).1 = decide (h 57 (6 * s + 2) = 1) := enc_one (hv.2.1 _ (by omega))
            rw [e57] at c48
            refine ⟨fun q2 => ?_, fun q2 => ?_⟩
            · rw [decide_eq_false q2] at c48
              refine hK _ _ _ _ ?_
              exact c48
            · rw [decide_eq_true q2] at c48
              refine hK _ _ _ _ ?_
              exact c48
  exact loop 120 t false (by omega) ht (by rw [Bool.false_or])
end OB

/-! THE CLASS's instant, lane by lane -/
def CPr (A : List Th) (S : List Int32) (h : mvH) : Prop := (h 3 7 = nI A.length ∧ h 3 8 = nI (2 * A.length) ∧ h 3 9 = nI (cntK 1 A) ∧ h 3 10 = nI (8 + cntK 8 A)) ∧ (∀ t, t < A.length → h 16 t = (tA A t).1 ∧ h 17 t = (tA A t).2.2.1 ∧ h 18 t = (tA A t).2.2.2.1 ∧ h 19 t = (tA A t).2.2.2.2.1 ∧ h 20 t = mkC (pgW A) 0 8 A t (tA A t)) ∧ S.length = 2 * A.length ∧ StOK A.length S 0 A.length ∧ (∀ v, v < A.length → nI v ^^^ (-1) ∈ S) ∧ ∀ i y, S[i]? = some y → h 21 i = y
def IW (h : mvH) : Prop := ∀ j, j < 4 → h 64 j = mvIn j
/-- words at cell q from place b on hold the registers -/
def WRD (h : mvH) (q b : Nat) (rg : Nat → Bool) : Prop := ∀ c, c < 128 → bt (h q (b + c / 32)) (c % 32) = rg c
theorem in_pj : ∀ l, l < 16 → ∀ i, i < 4 → pj l (mvIn i) = inB l i := by decide +kernel
theorem r5 : ∀ c, c < 128 → nI c >>> ((5 : Int32) &&& 31) = nI (c / 32) ∧ nI c &&& 31 = nI (c % 32) := by decide +kernel
theorem mkC_1 {A : List Th} {t : Nat} (hk : (tA A t).1 = 1) : mkC (pgW A) 0 8 A t (tA A t) = nI (cntK 1 (A.take t)) := by
  unfold mkC
  rw [if_pos hk, Nat.zero_add]
section CR
variable {A : List Th} {S : List Int32} {rg : Nat → Bool} {h : mvH} {st : Bool}
theorem set_ok {q b : Nat} (hq : (q = 6 ∧ b = 0) ∨ (q = 31 ∧ b + 4 ≤ 120)) (hw : WRD h q b rg) {c : Nat} (hc : c < 128) : cIsSet h q (nI b) (nI c) = b1I (rg c) := by
  obtain ⟨e1, e2⟩ := r5 c hc
  unfold cIsSet
  rw [e1, e2, nI_add]
  have hl : aLen q ≤ 120 ∧ b + c / 32 < aLen q := by
    rcases hq with ⟨rfl, rfl⟩ | ⟨rfl, hb⟩
    · rw [show aLen 6 = 4 from rfl]; omega
    · rw [show aLen 31 = 120 from rfl]; omega
  rw [if_neg (nI_pos (by omega)), if_neg (nI_ge hl.2 (by omega)), ix_nI (by omega), sh_1 _ (by omega), hw c hc]
  cases rg c
  · rw [if_neg (by decide)]; rfl
  · rw [if_pos (by decide)]; rfl
theorem sl_ok (hT : TF A) (h7 : h 3 7 = nI A.length) (hs : ∀ t, t < A.length → h 16 t = (tA A t).1 ∧ h 17 t = (tA A t).2.2.1 ∧ h 18 t = (tA A t).2.2.2.1 ∧ h 19 t = (tA A t).2.2.2.2.1 ∧ h 20 t = mkC (pgW A) 0 8 A t (tA A t)) {q b : Nat} (hq : (q = 6 ∧ b = 0) ∨ (q = 31 ∧ b + 4 ≤ 120)) (hw : WRD h q b rg) : ∀ k, k ≤ A.length → ∀ l, l < 16 → ∀ t, A.length - k ≤ t → t < A.length → pj l ((cSl h q (nI b) A.length k) 26 t) = seV A rg t := by
  have hA := hT.1
  intro k
  induction k with
  | zero => intro _ l _ t h1 h2; omega
  | succ k ih =>
    intro hk l hl t h1 h2
    unfold cSl
    dsimp only
    rw [hset_at]
    by_cases e : t = A.length - 1 - k
    · rw [if_pos e, ← e]
      have ho := cSl_o (h := h) (q := q) (w := nI b) (n := A.length) k
      have ih' := ih (by omega) l hl
      generalize cSl h q (nI b) A.length k = g at *
      obtain ⟨k16, _, k18, k19, k20⟩ := hs t h2
      rw [ho 16 (by decide), ho 18 (by decide), ho 19 (by decide), ho 20 (by decide), k16, k18, k19, k20, seV_eq hT h2]
      unfold seVal
      by_cases hk1 : (tA A t).1 = 1
      · have hcl := cnt_take_le (A := A) 1 t
        rw [if_pos hk1, if_pos hk1, mkC_1 hk1, set_ok (rg := rg) hq (fun c hc => by rw [ho q (by omega)]; exact hw c hc) (by omega)]
        cases rg (cntK 1 (A.take t))
        · rw [if_pos (show b1I false = 0 from rfl)]; exact pj_Z hl
        · rw [if_neg (show ¬ b1I true = 0 by decide)]; exact pj_O hl
      · rw [if_neg hk1, if_neg hk1, pj_or hl]
        have sub : ∀ x, (x = -1 ∨ ∃ a, t < a ∧ a < A.length ∧ x = nI a) → pj l (cSel g x) = seO (seV A rg) x := by
          intro x hx
          unfold cSel seO
          rcases hx with rfl | ⟨a, a1, a2, rfl⟩
          · rw [if_pos (by decide), if_pos (by decide)]; exact pj_Z hl
          · rw [if_neg (nI_pos (by omega)), if_neg (nI_pos (by omega)), ho 3 (by decide), h7, if_neg (nI_ge a2 (by omega)), ix_nI (by omega)]
            exact ih' a (by omega) a2
        rw [sub _ ((tf_at hT h2).2.2.1.imp id (fun ⟨a, a1, a2, a3, _⟩ => ⟨a, a1, a2, a3⟩)), sub _ ((tf_at hT h2).2.2.2.1.imp id (fun ⟨a, b, a1, a2, a3, _, a5, _⟩ => ⟨b, by omega, a3, a5⟩))]
    · rw [if_neg e]
      exact ih (by omega) l hl t (by omega) h2
theorem kill_ok (hT : TF A) (hs : ∀ t, t < A.length → h 16 t = (tA A t).1 ∧ h 17 t = (tA A t).2.2.1) {l : Nat} (hl : l < 16) : ∀ k, k ≤ A.length → ∀ t, t < k → bt ((cKill h k) 28 t) l = kil A (LV A l h) 120 t := by
  have hA := hT.1
  intro k
  induction k with
  | zero => intro _ t ht; omega
  | succ k ih =>
    intro hk t ht
    unfold cKill
    rw [hset_at]
    by_cases e : t = k
    · rw [if_pos e, e]
      have ho := cKill_o (h := h) k
      have ih' := ih (by omega)
      generalize cKill h k = g at *
      rw [ho 17 (by decide), ho 16 (by decide), (hs k (by omega)).2]
      unfold kil
      by_cases hu : (tA A k).2.2.1 = -1
      · rw [if_pos hu, if_pos hu, if_pos hu, bt_or, bt_0 l (by omega)]; rfl
      · rw [if_neg hu, if_neg hu, if_neg hu]
        obtain ⟨p, hp, e1, e2⟩ := tf_up hT (show k < A.length by omega) hu
        rw [e2, bt_or, ih' p hp, (hs p (by omega)).1, kil_fuel hT 119 120 p (by omega) (by omega) (by omega)]
        by_cases h7 : (tA A p).1 = 7
        · rw [if_pos h7, decide_eq_true h7, Bool.true_and, bt_and, bt_L l (by omega), decide_eq_true hl, Bool.and_true]
          have a1 := pj_end (h := g) (A := A) hA hl (Or.inr ⟨k, by omega, rfl⟩) (c := 2) (by decide)
          rw [show nI 2 = 2 from rfl] at a1
          have a2 := congrArg Prod.fst a1
          rw [ed_nI (by omega)] at a2
          have a3 : bt (cEnd g (nI k) 2) l = (LV A l g 57 (6 * k + 2)).1 := a2
          rw [a3]
          show ((pj l (g 27 (6 * k + 2))).1 || _) = ((pj l (h 27 (6 * k + 2))).1 || _)
          rw [ho 27 (by decide)]
        · rw [if_neg h7, decide_eq_false h7, Bool.false_and, bt_0 l (by omega)]
    · rw [if_neg e]
      exact ih (by omega) t (by omega)
set_option maxHeartbeats 4000000 in
theorem run_ok (hT : TF A) (hp : CPr A S h) (hi : IW h) {q b : Nat} (hq : (q = 6 ∧ b = 0) ∨ (q = 31 ∧ b + 4 ≤ 120)) (hw : WRD h q b rg) {g : mvH} (hg : g = cRun h q (nI b) (b1I (!st)) A.length (2 * A.length) (8 + cntK 8 A)) :
    CSt A (seV A rg) g ∧ ∀ l, l < 16 → INS A rg l st (LV A l g) ∧ ∀ t, t < A.length → bt (g 28 t) l = kil A (LV A l g) 120 t := by
  have hA := hT.1
  have hse : ∀ t, bco (seV A rg t) := fun t => tot_co (seV_tot t)
  obtain ⟨⟨p1, p2, p3, p4⟩, p5, p6, p7, p8, p9⟩ := hp
  have f0 : ∀ q, ¬ (q = 23 ∨ q = 24 ∨ q = 25 ∨ q = 27 ∨ q = 29) → cForg h q = h q := fun q hq => cForg_o hq
  have b3 : ∀ q, (q = 23 ∨ q = 24 ∨ q = 25) → ∀ j, j < 120 → cForg h q j = 0 := by
    intro q hq j hj
    unfold cForg
    rw [hset_other (by omega), hset_other (by omega), hset_other (by omega), hset_other (by omega)]
    rcases hq with rfl | rfl | rfl <;> simp [hfill, hj]
  have b27 : ∀ j, j < 720 → cForg h 27 j = 0 := by
    intro j hj
    unfold cForg
    rw [hset_other (by omega), hset_other (by omega), hset_other (by omega), hset_other (by omega)]
    simp [hfill, hj]
  have b29 : ∀ j, j < 128 → cForg h 29 j = if j < 4 then h 64 j else 0 := by
    intro j hj
    unfold cForg
    rw [hset_at, hset_at, hset_at, hset_at]
    have e : (hfill (hfill (hfill (hfill (hfill h 23 120 0) 24 120 0) 25 120 0) 27 720 0) 29 128 0) 29 j = 0 := by simp [hfill, hj]
    rw [e]
    by_cases j3 : j = 3
    · rw [if_pos j3, if_pos (by omega), j3]
    rw [if_neg j3]
    by_cases j2 : j = 2
    · rw [if_pos j2, if_pos (by omega), j2]
    rw [if_neg j2]
    by_cases j1 : j = 1
    · rw [if_pos j1, if_pos (by omega), j1]
    rw [if_neg j1]
    by_cases j0 : j = 0
    · rw [if_pos j0, if_pos (by omega), j0]
    rw [if_neg j0, if_neg (by omega)]
  unfold cRun at hg
  have hsF : ∀ t, t < A.length → cForg h 16 t = (tA A t).1 ∧ cForg h 17 t = (tA A t).2.2.1 ∧ cForg h 18 t = (tA A t).2.2.2.1 ∧ cForg h 19 t = (tA A t).2.2.2.2.1 ∧ cForg h 20 t = mkC (pgW A) 0 8 A t (tA A t) := fun t ht => by
    rw [f0 16 (by decide), f0 17 (by decide), f0 18 (by decide), f0 19 (by decide), f0 20 (by decide)]
    exact p5 t ht
  have hsel := sl_ok (h := cForg h) (rg := rg) hT (by rw [f0 3 (by decide)]; exact p1) hsF hq (fun c hc => by rw [f0 q (by omega)]; exact hw c hc) A.length (Nat.le_refl _)
  have ho := cSl_o (h := cForg h) (q := q) (w := nI b) (n := A.length) A.length
  generalize cSl (cForg h) q (nI b) A.length A.length = h2 at hsel ho hg
  have o3 : ∀ q, ¬ (q = 26 ∨ q = 3) → (hset h2 3 19 1) q = cForg h q := fun q hq => by rw [hset_other (by omega), ho q (by omega)]
  have hc3 : CSt A (seV A rg) (hset h2 3 19 1) := by
    refine ⟨?_, fun t ht => ?_, fun l hl t ht => ?_, fun l hl i hi4 => ?_⟩
    · rw [hset_at, if_neg (by decide), ho 3 (by decide), f0 3 (by decide)]; exact p1
    · rw [o3 16 (by decide), o3 17 (by decide), o3 18 (by decide), o3 19 (by decide), o3 20 (by decide)]; exact hsF t ht
    · rw [hset_other (by decide)]; exact hsel l hl t (by omega) ht
    · rw [o3 29 (by decide), b29 i (by omega), if_pos hi4, hi i hi4]; exact in_pj l hl i hi4
  have bot : ∀ l, l < 16 → ∀ p j, VW A p j → LV A l (hset h2 3 19 1) p j = (false, false) := by
    intro l hl p j hv
    show pj l _ = _
    have k3 := cl_ok hv
    rw [o3 _ (by have := k3.1; omega)]
    have hz : cForg h (cl p) (pl A p j) = 0 := by
      rcases hv with ⟨z | z | z, hj⟩ | ⟨z, hj⟩ | ⟨z, hj⟩
      · subst z; exact b3 23 (by decide) j (by omega)
      · subst z; exact b3 24 (by decide) j (by omega)
      · subst z; exact b3 25 (by decide) j (by omega)
      · subst z; exact b27 j (by omega)
      · subst z
        have hw : VW A 58 j := Or.inr (Or.inr ⟨rfl, hj⟩)
        have := b29 (pl A 58 j) (pl_lt hA hw).2
        rw [if_neg (by have := (cl_ok hw).2 rfl; omega)] at this
        exact this
    rw [hz]; exact pj_0 hl
  have h21 : ∀ i y, S[i]? = some y → (hset h2 3 19 1) 21 i = y := fun i y hiy => by rw [o3 21 (by decide), f0 21 (by decide)]; exact p9 i y hiy
  have h319 : ¬ (hset h2 3 19 1) 3 19 = 0 := by rw [hset_at, if_pos rfl]; decide
  generalize hset h2 3 19 1 = h3 at *
  obtain ⟨r1, r2⟩ := it_ok (st := st) hT hse p7 p8 2000 0 h3 (fun l _ => LV A l h3) (by omega) hc3 h21 (fun l hl => ⟨fun p j hv => bot l hl p j hv, fun k hk => by omega⟩) (fun l hl _ _ _ => rfl) (fun z => absurd z h319)
  rw [p6] at r1 r2
  generalize cIt (b1I (!st)) (2 * A.length) (8 + cntK 8 A) 2000 h3 = h4 at *
  have gk : ∀ q, ¬ q = 28 → g q = h4 q := fun q hq => by rw [hg]; exact cKill_o _ q hq
  have eL : ∀ l, eqV (VW A) (LV A l g) (LV A l h4) := fun l p j hv => by
    show pj l _ = pj l _
    rw [gk _ (by have := (cl_ok hv).1; omega)]
  refine ⟨?_, fun l hl => ⟨LFP_congr (FLok (st := st) hT hse l hl) (eqV_symm (eL l)) (r1 l hl), fun t ht => ?_⟩⟩
  · obtain ⟨c1, c2, c3, c4⟩ := r2
    refine ⟨by rw [gk 3 (by decide)]; exact c1, fun t ht => ?_, by rw [gk 26 (by decide)]; exact c3, by rw [gk 29 (by decide)]; exact c4⟩
    rw [gk 16 (by decide), gk 17 (by decide), gk 18 (by decide), gk 19 (by decide), gk 20 (by decide)]
    exact c2 t ht
  · rw [kil_congr hT (eL l) 120 t ht, hg]
    exact kill_ok hT (fun u hu => ⟨(r2.2.1 u hu).1, (r2.2.1 u hu).2.1⟩) hl A.length (Nat.le_refl _) t ht
end CR

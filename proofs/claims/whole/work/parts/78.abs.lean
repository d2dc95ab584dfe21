/-! AN INSTANT, as both sides see it -/
noncomputable def XS (A : List Th) (rg : Nat → Bool) (inp : Nat) (st : Bool) : Va := @Classical.epsilon Va ⟨fun _ _ => zB⟩ (INS A rg inp st)
theorem XS_ok {A : List Th} {rg : Nat → Bool} {inp : Nat} {st : Bool} {X : Va} (h : INS A rg inp st X) : eqV (VW A) X (XS A rg inp st) := INS_uniq h (Classical.epsilon_spec (p := INS A rg inp st) ⟨X, h⟩)
noncomputable def aD (A : List Th) (rg : Nat → Bool) (inp : Nat) (st : Bool) : Nat := dimX A (XS A rg inp st)
noncomputable def aE (A : List Th) (rg : Nat → Bool) (inp : Nat) (st : Bool) : Bool := (XS A rg inp st 57 0).1
noncomputable def aO (A : List Th) (rg : Nat → Bool) (inp : Nat) (st : Bool) (o : Nat) : Bool := (XS A rg inp st 58 o).1
noncomputable def aU (A : List Th) (rg : Nat → Bool) (inp : Nat) (st : Bool) (o : Nat) : Bool := decide (XS A rg inp st 58 o = (false, false))
noncomputable def aN (A : List Th) (rg : Nat → Bool) (inp : Nat) (st : Bool) : Nat → Bool := nxF A rg (XS A rg inp st)
theorem any_congr {p q : Nat → Bool} : ∀ n, (∀ i, i < n → p i = q i) → (List.range n).any p = (List.range n).any q := by
  intro n
  induction n with
  | zero => intro _; rfl
  | succ n ih => intro h; rw [range_any, range_any, ih (fun i hi => h i (by omega)), h n (by omega)]
theorem oW_congr {p q : Nat → Bool} : ∀ n, (∀ i, i < n → p i = q i) → oW p n = oW q n := by
  intro n
  induction n with
  | zero => intro _; rfl
  | succ n ih => intro h; unfold oW; rw [ih (fun i hi => h i (by omega)), h n (by omega)]
theorem nxF_congr {A : List Th} {rg : Nat → Bool} {X Y : Va} (hT : TF A) (h : eqV (VW A) X Y) : nxF A rg X = nxF A rg Y := by
  funext c
  unfold nxF
  exact any_congr _ (fun t ht => by rw [nxT_congr hT h ht])
theorem nxF_at {A : List Th} {rg : Nat → Bool} {X : Va} {t : Nat} (ht : t < A.length) (hk : (tA A t).1 = 1) : nxF A rg X (cntK 1 (A.take t)) = nxT A rg X t := by
  unfold nxF
  have key : ∀ n, n ≤ A.length → (List.range n).any (fun u => decide ((tA A u).1 = 1 ∧ cntK 1 (A.take u) = cntK 1 (A.take t)) && nxT A rg X u) = (decide (t < n) && nxT A rg X t) := by
    intro n
    induction n with
    | zero => intro _; rfl
    | succ n ih =>
      intro hn
      rw [range_any, ih (by omega)]
      by_cases e : n = t
      · rw [e, decide_eq_true (⟨hk, rfl⟩ : (tA A t).1 = 1 ∧ cntK 1 (A.take t) = cntK 1 (A.take t)), decide_eq_false (show ¬ t < t by omega), decide_eq_true (show t < t + 1 by omega)]
        simp
      · have hne : ¬ ((tA A n).1 = 1 ∧ cntK 1 (A.take n) = cntK 1 (A.take t)) := by
          intro z
          rcases Nat.lt_or_gt_of_ne e with q | q
          · have := cnt_take_lt (A := A) 1 q (by omega) z.1; omega
          · have := cnt_take_lt (A := A) 1 q ht hk; omega
        rw [decide_eq_false hne, Bool.false_and, Bool.or_false]
        congr 1
        by_cases q : t < n
        · rw [decide_eq_true q, decide_eq_true (show t < n + 1 by omega)]
        · rw [decide_eq_false q, decide_eq_false (show ¬ t < n + 1 by omega)]
  rw [key A.length (Nat.le_refl _), decide_eq_true ht, Bool.true_and]
/-- registers beyond the program's are not set -/
def Cn (A : List Th) (rg : Nat → Bool) : Prop := ∀ c, cntK 1 A ≤ c → rg c = false
theorem nxF_Cn {A : List Th} {rg : Nat → Bool} {X : Va} : Cn A (nxF A rg X) := by
  intro c hc
  unfold nxF
  rw [List.any_eq_false]
  intro t ht
  have ht := List.mem_range.mp ht
  intro z
  rw [Bool.and_eq_true] at z
  have z1 := of_decide_eq_true z.1
  have := cnt_all (A := A) ht z1.1
  omega
theorem cntK_le {A : List Th} (k : Int32) : cntK k A ≤ A.length := List.countP_le_length
def RG (A : List Th) (rg : Nat → Bool) (st : Bool) (g : mvH) : Prop := CSt A (seV A rg) g ∧ ∀ l, l < 16 → INS A rg l st (LV A l g) ∧ ∀ t, t < A.length → bt (g 28 t) l = kil A (LV A l g) 120 t
section AB
variable {A : List Th} {S : List Int32} {rg : Nat → Bool} {st : Bool} {g g' h : mvH}
theorem RG_cells (hr : RG A rg st g) (h7 : g' 3 7 = g 3 7) (hf : ∀ q, 16 ≤ q → q ≤ 29 → g' q = g q) : RG A rg st g' := by
  obtain ⟨⟨c1, c2, c3, c4⟩, r⟩ := hr
  have eL : ∀ l, LV A l g' = LV A l g := fun l => by
    funext p j
    show pj l (g' (cl p) _) = pj l (g (cl p) _)
    have : 23 ≤ cl p ∧ cl p ≤ 29 := by unfold cl; split; omega; split; omega; split; omega; split; omega; omega
    rw [hf _ (by omega) (by omega)]
  refine ⟨⟨by rw [h7]; exact c1, fun t ht => ?_, by rw [hf 26 (by decide) (by decide)]; exact c3, by rw [hf 29 (by decide) (by decide)]; exact c4⟩, fun l hl => by rw [eL l, hf 28 (by decide) (by decide)]; exact r l hl⟩
  rw [hf 16 (by decide) (by decide), hf 17 (by decide) (by decide), hf 18 (by decide) (by decide), hf 19 (by decide) (by decide), hf 20 (by decide) (by decide)]
  exact c2 t ht
theorem RG_ok (hT : TF A) (hr : RG A rg st g) {l : Nat} (hl : l < 16) : bt (cUnS g (cUnd g A.length) (8 + cntK 8 A)) l = !decide (aD A rg l st = 0) ∧ cWs g (nI l) (cWun g (nI l) A.length) (8 + cntK 8 A) = nI (aD A rg l st) ∧ cOne g (nI l) 4 = oW (aO A rg l st) 4 ∧ cUno g (nI l) 4 = oW (aU A rg l st) 4 ∧ bt (cEl g) l = aE A rg l st ∧ (∀ o, o < 4 → bt (g 29 (4 + o)) l = aO A rg l st o) ∧ ∀ q, (q = 6 ∨ q = 32) → WRD (cCp g q (nI l) A.length) q 0 (aN A rg l st) := by
  obtain ⟨hc, r⟩ := hr
  obtain ⟨r1, r2⟩ := r l hl
  have he := XS_ok r1
  have v58 : ∀ o, o < 4 → VW A 58 o := fun o ho => Or.inr (Or.inr ⟨rfl, Or.inl ho⟩)
  refine ⟨?_, ?_, ?_, ?_, ?_, fun o ho => ?_, fun q hq => ?_⟩
  · rw [un_ok hT hc hl, dimX_congr he]
    show decide (0 < aD A rg l st) = _
    by_cases z : aD A rg l st = 0
    · rw [z]; rfl
    · rw [decide_eq_true (Nat.pos_of_ne_zero z), decide_eq_false z]; rfl
  · rw [un_w hT hc hl, dimX_congr he]; rfl
  · rw [one_ok (A := A) hl 4 (Nat.le_refl _)]
    exact oW_congr 4 (fun o ho => by rw [he 58 o (v58 o ho)]; rfl)
  · rw [uno_ok (A := A) hl 4 (Nat.le_refl _)]
    exact oW_congr 4 (fun o ho => by rw [he 58 o (v58 o ho)]; rfl)
  · rw [el_ok hT hc hl, he 57 0 (Or.inr (Or.inl ⟨rfl, by have := hT.2.1; omega⟩))]; rfl
  · have := congrArg Prod.fst (he 58 o (v58 o ho))
    rw [pl_o ho] at this
    exact this
  · have := cp_WRD hT hc hl r2 hq
    rw [nxF_congr hT he] at this
    exact this
theorem RG_run (hT : TF A) (hp : CPr A S h) (hi : IW h) {q b : Nat} (hq : (q = 6 ∧ b = 0) ∨ (q = 31 ∧ b + 4 ≤ 120)) (hw : WRD h q b rg) : RG A rg st (cRun h q (nI b) (b1I (!st)) A.length (2 * A.length) (8 + cntK 8 A)) := run_ok hT hp hi hq hw rfl
/-! THE SEARCH, as both sides see it -/
noncomputable def aRf (A : List Th) (i : Nat) (rg : Nat → Bool) : Nat → (Nat → Nat → Bool) → Nat → Bool × (Nat → Nat → Bool) × Nat
  | 0, S, m => (true, S, m)
  | k + 1, S, m => match aRf A i rg k S m with
    | (false, S', m') => (false, S', m')
    | (true, S', m') => if aD A rg k (decide (i = 0)) = 0 ∧ aE A rg k (decide (i = 0)) = false then
        @ite _ (∃ s, 1 ≤ s ∧ s < m' ∧ S' s = aN A rg k (decide (i = 0))) (Classical.propDecidable _) (true, S', m') (if m' < 30 then (true, fun s => if s = m' then aN A rg k (decide (i = 0)) else S' s, m' + 1) else (false, S', m'))
      else (true, S', m')
noncomputable def tU (A : List Th) (i : Nat) (rg : Nat → Bool) (k : Nat) : Nat := sumN (fun k => if aD A rg k (decide (i = 0)) = 0 then 0 else 1) k
noncomputable def tE (A : List Th) (i : Nat) (rg : Nat → Bool) (k : Nat) : Nat := sumN (fun k => if aD A rg k (decide (i = 0)) = 0 ∧ aE A rg k (decide (i = 0)) = true then 1 else 0) k
noncomputable def tG (A : List Th) (i : Nat) (rg : Nat → Bool) (G : Int32) : Nat → Int32
  | 0 => G
  | k + 1 => if aD A rg k (decide (i = 0)) = 0 then tG A i rg G k ||| oW (aO A rg k (decide (i = 0))) 4 else tG A i rg G k
noncomputable def aLt (A : List Th) : Nat → Nat → (Nat → Nat → Bool) → Nat → Nat → Nat → Int32 → Bool × (Nat → Nat → Bool) × Nat × Nat × Nat × Int32
  | 0, _, S, m, u, e, G => (true, S, m, u, e, G)
  | k + 1, i, S, m, u, e, G => if i < m then (if (aRf A i (S i) 16 S m).1 = true then aLt A k (i + 1) (aRf A i (S i) 16 S m).2.1 (aRf A i (S i) 16 S m).2.2 (u + tU A i (S i) 16) (e + tE A i (S i) 16) (tG A i (S i) G 16) else (false, (aRf A i (S i) 16 S m).2.1, (aRf A i (S i) 16 S m).2.2, u, e, G)) else (true, S, m, u, e, G)
/-- the class's search: what it keeps -/
def SRh (A : List Th) (h : mvH) (S : Nat → Nat → Bool) (m : Nat) : Prop := h 4 2 = nI m ∧ 1 ≤ m ∧ m ≤ 30 ∧ ∀ s, s < m → WRD h 31 (s * 4) (S s) ∧ Cn A (S s)
theorem WRD_eq {q b q' b' : Nat} {f f' : Nat → Bool} (hA : A.length ≤ 120) (h1 : WRD g q b f) (h2 : WRD g' q' b' f') (c1 : Cn A f) (c2 : Cn A f') : (∀ w, w < 4 → g q (b + w) = g' q' (b' + w)) ↔ f = f' := by
  constructor
  · intro h
    funext c
    by_cases hc : c < 128
    · rw [← h1 c hc, ← h2 c hc, h (c / 32) (by omega)]
    · have := cntK_le (A := A) 1
      rw [c1 c (by omega), c2 c (by omega)]
  · intro h w hw
    refine bt_ext (fun i hi => ?_)
    have a1 := h1 (32 * w + i) (by omega)
    have a2 := h2 (32 * w + i) (by omega)
    rw [show (32 * w + i) / 32 = w by omega, show (32 * w + i) % 32 = i by omega] at a1 a2
    rw [a1, a2, h]
theorem rf_ok (hT : TF A) {i : Nat} {ls : Int32} (hr : RG A rg (decide (i = 0)) h) (hls : ∀ l, l < 16 → (bt ls l = true ↔ aD A rg l (decide (i = 0)) = 0 ∧ aE A rg l (decide (i = 0)) = false)) {S : Nat → Nat → Bool} {m : Nat} (hs : SRh A h S m) : ∀ k, k ≤ 16 → (cRf A.length ls k h m).1 = (aRf A i rg k S m).1 ∧ (cRf A.length ls k h m).2.2 = (aRf A i rg k S m).2.2 ∧ SRh A (cRf A.length ls k h m).2.1 (aRf A i rg k S m).2.1 (aRf A i rg k S m).2.2 ∧ m ≤ (aRf A i rg k S m).2.2 ∧ ∀ s, s < m → (aRf A i rg k S m).2.1 s = S s := by
  have hA := hT.1
  intro k
  induction k with
  | zero => intro _; exact ⟨rfl, rfl, hs, Nat.le_refl _, fun _ _ => rfl⟩
  | succ k ih =>
    intro hk
    obtain ⟨i1, i2, i3, i4, i5⟩ := ih (by omega)
    obtain ⟨f1, f2, f3, f4, f5⟩ := cRf_inv (h := h) (n := A.length) (ls := ls) k m hs.1 hs.2.2.1
    unfold cRf aRf
    generalize cRf A.length ls k h m = C at *
    generalize aRf A i rg k S m = B at *
    obtain ⟨cb, cg, cm⟩ := C
    obtain ⟨bb, bS, bm⟩ := B
    dsimp only at i1 i2 i3 i4 i5 f1 f2 f3 f4 f5
    subst i1
    subst i2
    cases cb with
    | false => exact ⟨rfl, rfl, i3, i4, i5⟩
    | true =>
      dsimp only
      have hb := hls k (by omega)
      have e1 : (mvsh ls (nI k) &&& 1 = 1) ↔ bt ls k = true := by
        rw [sh_1 _ (by omega)]
        cases bt ls k
        · exact ⟨fun z => absurd z (by decide), fun z => by cases z⟩
        · exact ⟨fun _ => rfl, fun _ => rfl⟩
      by_cases hd : aD A rg k (decide (i = 0)) = 0 ∧ aE A rg k (decide (i = 0)) = false
      · rw [if_pos (e1.mpr (hb.mpr hd)), if_pos hd]
        have hrg : RG A rg (decide (i = 0)) cg := RG_cells hr (by rw [f1 3 (by decide)]) (fun q h1 h2 => f1 q (by omega))
        have hw := (RG_ok hT hrg (l := k) (by omega)).2.2.2.2.2.2 32 (Or.inr rfl)
        have hcn : Cn A (aN A rg k (decide (i = 0))) := nxF_Cn
        have ho := cCp_o (h := cg) (q := 32) (l := nI k) A.length
        generalize cCp cg 32 (nI k) A.length = g2 at *
        have hkn : cKn g2 cm ↔ ∃ s, 1 ≤ s ∧ s < cm ∧ bS s = aN A rg k (decide (i = 0)) := by
          unfold cKn cNx
          have key : ∀ s, s < cm → ((∀ w, w < 4 → g2 31 (s * 4 + w) = g2 32 w) ↔ bS s = aN A rg k (decide (i = 0))) := by
            intro s hs2
            obtain ⟨w1, w2⟩ := i3.2.2.2 s hs2
            have := WRD_eq (A := A) (g := cg) (g' := g2) hA w1 hw w2 hcn
            rw [← this]
            refine forall_congr' (fun w => ?_)
            rw [ho 31 (by decide), Nat.zero_add]
          constructor
          · rintro ⟨s, s1, s2, s3⟩
            exact ⟨s, s1, s2, (key s s2).mp s3⟩
          · rintro ⟨s, s1, s2, s3⟩
            exact ⟨s, s1, s2, (key s s2).mpr s3⟩
        have hs2 : SRh A g2 bS cm := ⟨by rw [ho 4 (by decide)]; exact i3.1, i3.2.1, i3.2.2.1, fun s hs2 => ⟨fun c hc => by rw [ho 31 (by decide)]; exact (i3.2.2.2 s hs2).1 c hc, (i3.2.2.2 s hs2).2⟩⟩
        by_cases hk2 : ∃ s, 1 ≤ s ∧ s < cm ∧ bS s = aN A rg k (decide (i = 0))
        · rw [if_pos (hkn.mpr hk2), if_pos hk2]
          exact ⟨rfl, rfl, hs2, i4, i5⟩
        · rw [if_neg (fun z => hk2 (hkn.mp z)), if_neg hk2]
          by_cases h30 : cm < 30
          · rw [if_pos h30, if_pos h30]
            refine ⟨rfl, rfl, ⟨?_, by dsimp only; omega, by dsimp only; omega, fun s hs3 => ?_⟩, by dsimp only; omega, fun s hs3 => ?_⟩
            · show (hset (hcpy g2 32 0 31 (cm * 4) 4) 4 2 (nI (cm + 1))) 4 2 = nI (cm + 1)
              rw [hset_at, if_pos rfl]
            · dsimp only at hs3 ⊢
              by_cases hsm : s = cm
              · rw [if_pos hsm]
                refine ⟨fun c hc => ?_, hcn⟩
                have e : cKp g2 cm 31 (s * 4 + c / 32) = g2 32 (c / 32) := by
                  unfold cKp
                  rw [hset_other (by decide)]
                  simp only [hcpy, if_true, va_cpy]
                  rw [if_pos (by omega), hsm]
                  congr 1
                  omega
                rw [e]
                have := hw c hc
                rwa [Nat.zero_add] at this
              · rw [if_neg hsm]
                refine ⟨fun c hc => ?_, (hs2.2.2.2 s (by omega)).2⟩
                have e : cKp g2 cm 31 (s * 4 + c / 32) = g2 31 (s * 4 + c / 32) := by
                  unfold cKp
                  rw [hset_other (by decide)]
                  simp only [hcpy, if_true, va_cpy]
                  rw [if_neg (by omega)]
                rw [e]
                exact (hs2.2.2.2 s (by omega)).1 c hc
            · dsimp only
              rw [if_neg (by omega)]
              exact i5 s hs3
          · rw [if_neg h30, if_neg h30]
            exact ⟨rfl, rfl, hs2, i4, i5⟩
      · rw [if_neg (fun z => hd (hb.mp (e1.mp z))), if_neg hd]
        exact ⟨rfl, rfl, i3, i4, i5⟩
end AB

/-! WHAT THE CLASS reads off an instant, lane by lane -/
def nxF (A : List Th) (rg : Nat → Bool) (X : Va) (c : Nat) : Bool := (List.range A.length).any (fun t => decide ((tA A t).1 = 1 ∧ cntK 1 (A.take t) = c) && nxT A rg X t)
def oW (f : Nat → Bool) : Nat → Int32
  | 0 => 0
  | o + 1 => if f o = true then oW f o ||| ((1 : Int32) <<< (nI o &&& 31)) else oW f o
theorem sumN_add {f g : Nat → Nat} : ∀ n, sumN (fun i => f i + g i) n = sumN f n + sumN g n := by
  intro n
  induction n with
  | zero => rfl
  | succ n ih => unfold sumN; rw [ih]; omega
theorem sumN_app {f : Nat → Nat} (m : Nat) : ∀ n, sumN f (m + n) = sumN f m + sumN (fun i => f (m + i)) n := by
  intro n
  induction n with
  | zero => rfl
  | succ n ih => show sumN f (m + n) + f (m + n) = _ + (sumN _ n + f (m + n)); rw [ih]; omega
theorem unk_pos {b : B2} : decide (0 < unk b) = decide (b = (false, false)) := by
  unfold unk
  by_cases e : b = (false, false)
  · rw [if_pos e, decide_eq_true e]; rfl
  · rw [if_neg e, decide_eq_false e]; rfl
theorem dec_or (a b : Nat) : (decide (0 < a) || decide (0 < b)) = decide (0 < a + b) := by
  by_cases h : 0 < a
  · rw [decide_eq_true h, decide_eq_true (show 0 < a + b by omega)]; rfl
  · have : a = 0 := by omega
    rw [this, Nat.zero_add]; rfl
theorem bt_b1I {b : Bool} {i : Nat} (hi : i < 32) : bt (b1I b) i = (b && decide (i = 0)) := by
  cases b
  · exact bt_0 i hi
  · exact bt_1 i hi
section OC
variable {A : List Th} {rg : Nat → Bool} {g : mvH} {st : Bool} {l : Nat}
theorem un_bt (hl : l < 16) (x : Int32) : bt (lUnk x) l = decide (0 < unk (pj l x)) := by rw [bt_unk hl, unk_pos]
theorem un_w1 (hl : l < 16) (x : Int32) : cW1 (nI l) x = nI (unk (pj l x)) := by
  unfold cW1
  rw [sh_1 _ (by omega), bt_unk hl]
  unfold unk
  by_cases e : pj l x = (false, false)
  · rw [if_pos e, decide_eq_true e]; rfl
  · rw [if_neg e, decide_eq_false e]; rfl
def T1 (A : List Th) (X : Va) (t : Nat) : Nat := sumN (fun u => unk (X 53 u) + sumN (fun c => unk (X 57 (6 * u + c))) 6) t
def T2 (l : Nat) (g : mvH) (s : Nat) : Nat := sumN (fun s => unk (pj l (g 29 s))) s
theorem unk_tot {b : B2} (h : tot b) : unk b = 0 := by rcases h with rfl | rfl <;> decide
theorem T12 (hT : TF A) (hc : CSt A (seV A rg) g) (hl : l < 16) : T1 A (LV A l g) A.length + T2 l g (8 + cntK 8 A) = dimX A (LV A l g) := by
  have hloc : ∀ t, t ≤ A.length → sumN (fun c => unk (pj l (g 29 (8 + c)))) (cntK 8 (A.take t)) = sumN (fun u => if (tA A u).1 = 8 then unk (LV A l g 58 (4 + u)) else 0) t := by
    intro t
    induction t with
    | zero => intro _; simp [cntK]; rfl
    | succ t ih =>
      intro ht
      rw [cnt_take_s 8 (by omega)]
      show _ = sumN _ t + (if (tA A t).1 = 8 then unk (LV A l g 58 (4 + t)) else 0)
      rw [← ih (by omega)]
      by_cases hk : (tA A t).1 = 8
      · rw [if_pos hk, if_pos hk]
        show sumN _ _ + unk (pj l (g 29 (8 + cntK 8 (A.take t)))) = _ + unk (pj l (g 29 (pl A 58 (4 + t))))
        congr 1
        unfold pl
        rw [if_pos rfl, if_neg (by omega), Nat.add_sub_cancel_left]
      · rw [if_neg hk, if_neg hk]; rfl
  have h1 := hloc A.length (Nat.le_refl _)
  rw [List.take_length] at h1
  have h2 : T2 l g 8 = sumN (fun w => unk (LV A l g 58 w)) 4 := by
    have hin : ∀ i, i < 4 → unk (pj l (g 29 i)) = 0 := fun i hi => by
      rw [hc.2.2.2 l hl i hi]
      refine unk_tot ?_
      unfold inB
      split
      · exact Or.inl rfl
      · exact Or.inr rfl
    unfold T2
    rw [show (8 : Nat) = 4 + 4 from rfl, sumN_app 4 4, sumN_congr (f := fun s => unk (pj l (g 29 s))) (g := fun _ => 0) 4 hin]
    show (0 + sumN _ 4) = _
    rw [Nat.zero_add]
    refine sumN_congr 4 (fun w hw => ?_)
    show _ = unk (pj l (g 29 (pl A 58 w)))
    unfold pl
    rw [if_pos rfl, if_pos hw]
  have h3 : T2 l g (8 + cntK 8 A) = T2 l g 8 + sumN (fun c => unk (pj l (g 29 (8 + c)))) (cntK 8 A) := sumN_app 8 _
  rw [h3, h2, h1]
  unfold dimX T1
  have h4 : sumN (dimT A (LV A l g)) A.length = sumN (fun u => (unk (LV A l g 53 u) + sumN (fun c => unk (LV A l g 57 (6 * u + c))) 6) + (if (tA A u).1 = 8 then unk (LV A l g 58 (4 + u)) else 0)) A.length := sumN_congr _ (fun u _ => by unfold dimT; omega)
  have h5 := sumN_add (f := fun u => unk (LV A l g 53 u) + sumN (fun c => unk (LV A l g 57 (6 * u + c))) 6) (g := fun u => if (tA A u).1 = 8 then unk (LV A l g 58 (4 + u)) else 0) A.length
  rw [h4]
  omega
theorem un_ok (hT : TF A) (hc : CSt A (seV A rg) g) (hl : l < 16) : bt (cUnS g (cUnd g A.length) (8 + cntK 8 A)) l = decide (0 < dimX A (LV A l g)) := by
  have hA := hT.1
  have u6 : ∀ t, t < A.length → ∀ a c, c ≤ 6 → bt (cU6 g t a c) l = (bt a l || decide (0 < sumN (fun c => unk (LV A l g 57 (6 * t + c))) c)) := by
    intro t ht a c
    induction c with
    | zero => intro _; show bt a l = (bt a l || false); rw [Bool.or_false]
    | succ c ih =>
      intro hc6
      show bt (cU6 g t a c ||| lUnk (cEnd g (nI t) (nI c))) l = _
      rw [bt_or, ih (by omega), un_bt hl, pj_end hA hl (Or.inr ⟨t, ht, rfl⟩) (by omega), ed_nI (by omega), Bool.or_assoc, dec_or]
      rfl
  have u1 : ∀ t, t ≤ A.length → bt (cUnd g t) l = decide (0 < T1 A (LV A l g) t) := by
    intro t
    induction t with
    | zero => intro _; exact bt_0 l (by omega)
    | succ t ih =>
      intro ht
      show bt (cU6 g t (cUnd g t ||| (lUnk (g 23 t) ||| lUnk (g 26 t))) 6) l = _
      rw [u6 t (by omega) _ 6 (Nat.le_refl _), bt_or, bt_or, ih (by omega), un_bt hl, un_bt hl, hc.2.2.1 l hl t (by omega), unk_tot (seV_tot t)]
      rw [show decide (0 < 0) = false from rfl, Bool.or_false, dec_or, dec_or]
      show _ = decide (0 < T1 A (LV A l g) t + (unk (LV A l g 53 t) + sumN (fun c => unk (LV A l g 57 (6 * t + c))) 6))
      rw [Nat.add_assoc]
      rfl
  have us : ∀ a s, bt (cUnS g a s) l = (bt a l || decide (0 < T2 l g s)) := by
    intro a s
    induction s with
    | zero => show bt a l = (bt a l || false); rw [Bool.or_false]
    | succ s ih =>
      show bt (cUnS g a s ||| lUnk (g 29 s)) l = _
      rw [bt_or, ih, un_bt hl, Bool.or_assoc, dec_or]
      rfl
  rw [us, u1 _ (Nat.le_refl _), dec_or, T12 hT hc hl]
theorem un_w (hT : TF A) (hc : CSt A (seV A rg) g) (hl : l < 16) : cWs g (nI l) (cWun g (nI l) A.length) (8 + cntK 8 A) = nI (dimX A (LV A l g)) := by
  have hA := hT.1
  have u6 : ∀ t, t < A.length → ∀ a c, c ≤ 6 → cW6 g (nI l) t (nI a) c = nI (a + sumN (fun c => unk (LV A l g 57 (6 * t + c))) c) := by
    intro t ht a c
    induction c with
    | zero => intro _; rfl
    | succ c ih =>
      intro hc6
      show cW6 g (nI l) t (nI a) c + cW1 (nI l) (cEnd g (nI t) (nI c)) = _
      rw [ih (by omega), un_w1 hl, pj_end hA hl (Or.inr ⟨t, ht, rfl⟩) (by omega), ed_nI (by omega), nI_add, Nat.add_assoc]
      rfl
  have u1 : ∀ t, t ≤ A.length → cWun g (nI l) t = nI (T1 A (LV A l g) t) := by
    intro t
    induction t with
    | zero => intro _; rfl
    | succ t ih =>
      intro ht
      show cW6 g (nI l) t (cWun g (nI l) t + (cW1 (nI l) (g 23 t) + cW1 (nI l) (g 26 t))) 6 = _
      rw [ih (by omega), un_w1 hl, un_w1 hl, hc.2.2.1 l hl t (by omega), unk_tot (seV_tot t), nI_add, nI_add, u6 t (by omega) _ 6 (Nat.le_refl _)]
      show _ = nI (T1 A (LV A l g) t + (unk (LV A l g 53 t) + sumN (fun c => unk (LV A l g 57 (6 * t + c))) 6))
      rw [Nat.add_zero, Nat.add_assoc]
      rfl
  have us : ∀ a s, cWs g (nI l) (nI a) s = nI (a + T2 l g s) := by
    intro a s
    induction s with
    | zero => rfl
    | succ s ih =>
      show cWs g (nI l) (nI a) s + cW1 (nI l) (g 29 s) = _
      rw [ih, un_w1 hl, nI_add, Nat.add_assoc]
      rfl
  rw [u1 _ (Nat.le_refl _), us, T12 hT hc hl]
theorem pl_o {o : Nat} (ho : o < 4) : LV A l g 58 o = pj l (g 29 (4 + o)) := by
  show pj l (g 29 (pl A 58 o)) = _
  unfold pl
  rw [if_pos rfl, if_pos ho]
theorem one_ok (hl : l < 16) : ∀ o, o ≤ 4 → cOne g (nI l) o = oW (fun o => (LV A l g 58 o).1) o := by
  intro o
  induction o with
  | zero => intro _; rfl
  | succ o ih =>
    intro ho
    show cOne g (nI l) o ||| ((mvsh (g 29 (4 + o) &&& 65535) (nI l) &&& 1) <<< (nI o &&& 31)) = (if (LV A l g 58 o).1 = true then _ else _)
    rw [ih (by omega), sh_1 _ (by omega), bt_and, bt_L l (by omega), decide_eq_true hl, Bool.and_true, pl_o (by omega)]
    show _ ||| (b1I (bt (g 29 (4 + o)) l) <<< (nI o &&& 31)) = (if bt (g 29 (4 + o)) l = true then _ else _)
    cases bt (g 29 (4 + o)) l
    · rw [if_neg (by decide)]
      refine bt_ext (fun i hi => ?_)
      rw [bt_or, bt_sl _ (by omega) hi, bt_b1I (by omega), Bool.false_and, Bool.and_false, Bool.or_false]
    · rw [if_pos rfl]; rfl
theorem uno_ok (hl : l < 16) : ∀ o, o ≤ 4 → cUno g (nI l) o = oW (fun o => decide (LV A l g 58 o = (false, false))) o := by
  intro o
  induction o with
  | zero => intro _; rfl
  | succ o ih =>
    intro ho
    show cUno g (nI l) o ||| (cW1 (nI l) (g 29 (4 + o)) <<< (nI o &&& 31)) = (if decide (LV A l g 58 o = (false, false)) = true then _ else _)
    rw [ih (by omega), pl_o (by omega)]
    unfold cW1
    rw [sh_1 _ (by omega), bt_unk hl]
    cases decide (pj l (g 29 (4 + o)) = (false, false))
    · rw [if_neg (by decide)]
      refine bt_ext (fun i hi => ?_)
      rw [bt_or, bt_sl _ (by omega) hi, bt_b1I (by omega), Bool.false_and, Bool.and_false, Bool.or_false]
    · rw [if_pos rfl]; rfl
theorem el_ok (hT : TF A) (hc : CSt A (seV A rg) g) (hl : l < 16) : bt (cEl g) l = (LV A l g 57 0).1 := by
  have hA := hT.1
  have hA0 := hT.2.1
  unfold cEl
  rw [hc.1, if_neg (fun z => by have := nI_inj (a := A.length) (b := 0) (by omega) (by decide) z; omega), bt_and, bt_L l (by omega), decide_eq_true hl, Bool.and_true]
  have a1 := pj_end (h := g) (A := A) hA hl (Or.inr ⟨0, hA0, rfl⟩) (c := 0) (by decide)
  rw [ed_nI (by omega)] at a1
  exact congrArg Prod.fst a1
theorem range_any {p : Nat → Bool} (n : Nat) : (List.range (n + 1)).any p = ((List.range n).any p || p n) := by
  rw [List.range_succ, List.any_append]
  simp
theorem stay_ok (hT : TF A) (hc : CSt A (seV A rg) g) (hl : l < 16) (hkl : ∀ t, t < A.length → bt (g 28 t) l = kil A (LV A l g) 120 t) {t : Nat} (ht : t < A.length) (hk : (tA A t).1 = 1) : bt (cStay g (nI t)) l = nxT A rg (LV A l g) t := by
  have hA := hT.1
  unfold cStay nxT
  rw [ix_nI (by omega), bt_and, bt_and, bt_or, bt_and, bt_xor, bt_m1 l (by omega), bt_L l (by omega), decide_eq_true hl, Bool.and_true, hkl t ht, Bool.xor_true]
  have e26 : bt (g 26 t) l = rg (cntK 1 (A.take t)) := by
    have := hc.2.2.1 l hl t ht
    rw [seV_eq hT ht] at this
    unfold seVal at this
    rw [if_pos hk] at this
    exact congrArg Prod.fst this
  rw [e26]
  rfl
theorem cp_ok (hT : TF A) (hc : CSt A (seV A rg) g) (hl : l < 16) (hkl : ∀ t, t < A.length → bt (g 28 t) l = kil A (LV A l g) 120 t) {q : Nat} (hq : q = 6 ∨ q = 32) : ∀ n, n ≤ A.length → ∀ c, c < 128 → bt ((cCp g q (nI l) n) q (c / 32)) (c % 32) = (List.range n).any (fun t => decide ((tA A t).1 = 1 ∧ cntK 1 (A.take t) = c) && nxT A rg (LV A l g) t) := by
  have hA := hT.1
  intro n
  induction n with
  | zero =>
    intro _ c hc
    have : (cCp g q (nI l) 0) q (c / 32) = 0 := by
      unfold cCp
      simp only [hfill, if_true]
      rw [if_pos (by omega)]
    rw [this, bt_0 _ (by omega)]
    rfl
  | succ n ih =>
    intro hn c hc128
    have ih' := ih (by omega)
    have ho := cCp_o (h := g) (q := q) (l := nI l) n
    rw [range_any]
    unfold cCp
    dsimp only
    have e20 : (cCp g q (nI l) n) 20 n = g 20 n := by rw [ho 20 (by omega)]
    have e16 : (cCp g q (nI l) n) 16 n = g 16 n := by rw [ho 16 (by omega)]
    have est : cStay (cCp g q (nI l) n) (nI n) = cStay g (nI n) := by
      unfold cStay
      rw [ho 23 (by omega), ho 25 (by omega), ho 26 (by omega), ho 28 (by omega)]
    rw [e20, e16, est, (hc.2.1 n (by omega)).1, (hc.2.1 n (by omega)).2.2.2.2]
    generalize cCp g q (nI l) n = g2 at *
    by_cases hk : (tA A n).1 = 1
    · rw [if_pos hk, mkC_1 hk]
      have hcl := cnt_take_le (A := A) 1 n
      generalize hr : cntK 1 (A.take n) = r at *
      obtain ⟨e1, e2⟩ := r5 r (by omega)
      rw [e1, e2, if_neg (nI_pos (by omega)), if_neg (show ¬ (4 : Int32) ≤ nI (r / 32) from nI_ge (b := 4) (by omega) (by omega)), ix_nI (by omega), hset_at, sh_1 _ (by omega), stay_ok hT hc hl hkl (by omega) hk]
      by_cases hw : c / 32 = r / 32
      · rw [if_pos hw, bt_or, bt_sl _ (by omega) (by omega), bt_b1I (by omega), ← hw, ih' c hc128]
        congr 1
        by_cases hcr : r = c
        · rw [decide_eq_true (show (tA A n).1 = 1 ∧ r = c from ⟨hk, hcr⟩), hcr]
          simp
        · rw [decide_eq_false (show ¬ ((tA A n).1 = 1 ∧ r = c) from fun z => hcr z.2)]
          by_cases hle : r % 32 ≤ c % 32
          · rw [decide_eq_true hle, decide_eq_false (show ¬ c % 32 - r % 32 = 0 by omega)]; simp
          · rw [decide_eq_false hle]; simp
      · rw [if_neg hw, ih' c hc128, decide_eq_false (show ¬ ((tA A n).1 = 1 ∧ r = c) from fun z => hw (by rw [z.2]))]
        simp
    · rw [if_neg hk, ih' c hc128, decide_eq_false (fun z => hk z.1)]
      simp
theorem cp_WRD (hT : TF A) (hc : CSt A (seV A rg) g) (hl : l < 16) (hkl : ∀ t, t < A.length → bt (g 28 t) l = kil A (LV A l g) 120 t) {q : Nat} (hq : q = 6 ∨ q = 32) : WRD (cCp g q (nI l) A.length) q 0 (nxF A rg (LV A l g)) := fun c hc2 => by
  rw [Nat.zero_add]
  exact cp_ok hT hc hl hkl hq A.length (Nat.le_refl _) c hc2
end OC

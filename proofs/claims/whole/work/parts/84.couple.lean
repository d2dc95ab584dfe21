/-! BOTH SIDES AT ONCE: what holds between two calls of the law -/
theorem aRf_m {A : List Th} {i : Nat} {rg : Nat → Bool} {S : Nat → Nat → Bool} {m : Nat} (hm : m ≤ 30) : ∀ k, m ≤ (aRf A i rg k S m).2.2 ∧ (aRf A i rg k S m).2.2 ≤ 30 := by
  intro k
  induction k with
  | zero => exact ⟨Nat.le_refl _, hm⟩
  | succ k ih =>
    rcases hB : aRf A i rg k S m with ⟨b, S', m'⟩
    rw [hB] at ih
    dsimp only at ih
    cases b with
    | false =>
      have : aRf A i rg (k + 1) S m = (false, S', m') := by rw [aRf, hB]
      rw [this]; exact ih
    | true =>
      rw [aRf_t hB]
      split
      · split
        · exact ih
        · split
          · dsimp only; omega
          · exact ih
      · exact ih
theorem aLt_m {A : List Th} : ∀ k i S m u e G, 1 ≤ m → m ≤ 30 → 1 ≤ (aLt A k i S m u e G).2.2.1 ∧ (aLt A k i S m u e G).2.2.1 ≤ 30 := by
  intro k
  induction k with
  | zero => intro i S m u e G h1 h2; exact ⟨h1, h2⟩
  | succ k ih =>
    intro i S m u e G h1 h2
    by_cases him : i < m
    · rcases hB : aRf A i (S i) 16 S m with ⟨b, S', m'⟩
      have hb := aRf_m (A := A) (i := i) (rg := S i) (S := S) (m := m) h2 16
      rw [hB] at hb
      dsimp only at hb
      rw [aLt_s him hB]
      cases b with
      | false => rw [if_neg (by decide)]; dsimp only; omega
      | true => rw [if_pos rfl]; exact ih _ _ _ _ _ _ (by omega) hb.2
    · rw [aLt_n him]; exact ⟨h1, h2⟩
def Txt (h : mvH) : Prop := ∃ n : Nat, ∃ tx : Nat → Int32, h 1 1 = nI n ∧ h 5 1 = nI n ∧ n ≤ 60 ∧ ∀ j, j < n → h 7 j = tx j ∧ h 33 j = tx j ∧ 33 ≤ tx j ∧ tx j ≤ 126
def NoP (h : mvH) : Prop := h 0 5 = 0 ∧ h 5 26 = 0 ∧ h 5 17 = 0 ∧ h 5 25 = 0 ∧ h 3 7 = 0 ∧ h 3 9 = 0 ∧ h 4 3 = 0 ∧ h 5 50 = 0 ∧ h 5 51 = 0 ∧ h 5 52 = 0 ∧ (∀ w, w < 4 → h 6 w = 0) ∧ ∀ c, c < 120 → h 62 c = 0
noncomputable def aB (A : List Th) : Bool × (Nat → Nat → Bool) × Nat × Nat × Nat × Int32 := aLt A 30 0 (fun _ _ => false) 1 0 0 0
theorem aB_m {A : List Th} : 1 ≤ (aB A).2.2.1 ∧ (aB A).2.2.1 ≤ 30 := by
  unfold aB
  exact aLt_m 30 0 _ 1 0 0 0 (by decide) (by decide)
def Srch (A : List Th) (h : mvH) : Prop := (h 4 3 = 0 ∧ h 5 50 = 0 ∧ h 5 51 = 0 ∧ h 5 52 = 0) ∨ ((aB A).1 = true ∧ h 4 3 = nI (aB A).2.2.1 ∧ h 4 4 = nI (aB A).2.2.2.1 ∧ h 4 5 = nI (aB A).2.2.2.2.1 ∧ h 4 6 = (aB A).2.2.2.2.2 ∧ h 5 50 = nI (aB A).2.2.2.1 ∧ h 5 51 = nI (aB A).2.2.2.2.1 ∧ h 5 52 = (aB A).2.2.2.2.2) ∨ ((aB A).1 = false ∧ h 4 3 = -2 ∧ h 5 50 = 0 ∧ h 5 51 = 0 ∧ h 5 52 = 0)
def Stg (h : mvH) : Prop := (h 0 5 = 1 ∧ h 5 42 = 1 ∧ h 5 43 = 0 ∧ h 5 44 = 0) ∨ (h 0 5 = 2 ∧ h 5 42 = 0 ∧ h 5 43 = 1 ∧ h 5 44 = 0) ∨ (h 0 5 = 3 ∧ h 5 42 = 0 ∧ h 5 43 = 1 ∧ h 5 44 = 1)
def YesP (A : List Th) (S : List Int32) (rg : Nat → Bool) (h : mvH) : Prop := TF A ∧ CPr A S h ∧ MdCon h 0 0 A ∧ h 5 17 = nI A.length ∧ h 5 25 = nI (cntK 1 A) ∧ h 5 26 = 1 ∧ Stg h ∧ WRD h 6 0 rg ∧ (∀ c, c < 120 → h 62 c = b1I (rg c)) ∧ Cn A rg ∧ Srch A h
def Tld (h : mvH) : Prop := h 0 6 = h 5 48 ∧ h 0 7 = h 5 45 ∧ h 0 8 = h 5 46 ∧ h 0 9 = h 5 47
def Prg (h : mvH) : Prop := NoP h ∨ ∃ A S rg, YesP A S rg h
def INV (h : mvH) : Prop := Txt h ∧ Tld h ∧ IW h ∧ Prg h
section CP
variable {d : Nat} {h h' : mvH}
theorem MdCon_q {A : List Th} (hM : MdCon h 0 0 A) (hq : ∀ q, 43 ≤ q → q ≤ 49 → h' q = h q) : MdCon h' 0 0 A := fun j x hx => by
  rw [hq 43 (by decide) (by decide), hq 44 (by decide) (by decide), hq 45 (by decide) (by decide), hq 46 (by decide) (by decide), hq 47 (by decide) (by decide), hq 48 (by decide) (by decide), hq 49 (by decide) (by decide)]
  exact hM j x hx
theorem Prg_q (hp : Prg h) (hq : ∀ q, (q = 0 ∨ q = 4 ∨ q = 6 ∨ (16 ≤ q ∧ q ≤ 21) ∨ (43 ≤ q ∧ q ≤ 49) ∨ q = 62) → h' q = h q) (h3 : ∀ j, j ≠ 19 → h' 3 j = h 3 j) (h5 : ∀ j, 17 ≤ j → h' 5 j = h 5 j) : Prg h' := by
  rcases hp with ⟨n1, n2, n3, n4, n5, n6, n7, n8, n9, n10, n11, n12⟩ | ⟨A, S, rg, y1, y2, y3, y4, y5, y6, y7, y8, y9, y10, y11⟩
  · left
    refine ⟨by rw [hq 0 (by decide)]; exact n1, by rw [h5 26 (by decide)]; exact n2, by rw [h5 17 (by decide)]; exact n3, by rw [h5 25 (by decide)]; exact n4, by rw [h3 7 (by decide)]; exact n5, by rw [h3 9 (by decide)]; exact n6, by rw [hq 4 (by decide)]; exact n7, by rw [h5 50 (by decide)]; exact n8, by rw [h5 51 (by decide)]; exact n9, by rw [h5 52 (by decide)]; exact n10, by rw [hq 6 (by decide)]; exact n11, by rw [hq 62 (by decide)]; exact n12⟩
  · right
    refine ⟨A, S, rg, y1, CPr_cells y2 h3 (fun q h1 h2 => hq q (by omega)), MdCon_q y3 (fun q h1 h2 => hq q (by omega)), by rw [h5 17 (by decide)]; exact y4, by rw [h5 25 (by decide)]; exact y5, by rw [h5 26 (by decide)]; exact y6, ?_, by unfold WRD; rw [hq 6 (by decide)]; exact y8, by rw [hq 62 (by decide)]; exact y9, y10, ?_⟩
    · unfold Stg
      rw [hq 0 (by decide), h5 42 (by decide), h5 43 (by decide), h5 44 (by decide)]
      exact y7
    · unfold Srch
      rw [hq 4 (by decide), h5 50 (by decide), h5 51 (by decide), h5 52 (by decide)]
      exact y11
theorem Tld_q (ht : Tld h) (h0 : h' 0 = h 0) (h5 : ∀ j, 17 ≤ j → h' 5 j = h 5 j) : Tld h' := by
  unfold Tld
  rw [h0, h5 48 (by decide), h5 45 (by decide), h5 46 (by decide), h5 47 (by decide)]
  exact ht
theorem Txt_q (ht : Txt h) (h1 : h' 1 1 = h 1 1) (h5 : h' 5 1 = h 5 1) (h7 : h' 7 = h 7) (h33 : h' 33 = h 33) : Txt h' := by
  obtain ⟨n, tx, t1, t2, t3, t4⟩ := ht
  exact ⟨n, tx, by rw [h1]; exact t1, by rw [h5]; exact t2, t3, by rw [h7, h33]; exact t4⟩
theorem IW_q (hi : IW h) (h64 : h' 64 = h 64) : IW h' := by unfold IW; rw [h64]; exact hi
/-- one call of the class and the same call of the reference -/
def Pair (d m1 m2 : Nat) (as1 as2 : List mvV) (h : mvH) : Prop := mvCal mvMT d m1 (.inr 0 :: as1) h (fun r h1 => (∃ v, r = some (.inl v)) ∧ mvCal mvMT d m2 (.inr 5 :: as2) h1 (fun r2 h2 => r2 = r ∧ INV h2))
theorem cp_type (hd : 430 ≤ d) (hI : INV h) (c : Int32) : Pair d 84 96 [.inl c] [.inl c] h := by
  obtain ⟨⟨n, tx, t1, t2, t3, t4⟩, hT, hi, hp⟩ := hI
  refine s_X4_type (by omega) c t1 t3 (fun hb => ?_) (fun c1 c2 hn => ?_)
  · refine ⟨⟨_, rfl⟩, s_X5_type (by omega) c t2 t3 (fun _ => ⟨rfl, ⟨n, tx, t1, t2, t3, t4⟩, hT, hi, hp⟩) (fun c1 c2 hn => ?_)⟩
    rcases hb with z | z | z
    · exact absurd z (Int32.not_lt.mpr c1)
    · exact absurd z (Int32.not_lt.mpr c2)
    · omega
  · refine ⟨⟨_, rfl⟩, ?_⟩
    have k5 : ∀ j, (hset (hset h 7 n c) 1 1 (nI (n + 1))) 5 j = h 5 j := fun j => by rw [hset_other (by decide), hset_other (by decide)]
    refine s_X5_type (by omega) c (by rw [k5]; exact t2) t3 (fun hb => ?_) (fun _ _ _ => ⟨rfl, ?_, ?_, ?_, ?_⟩)
    · rcases hb with z | z | z
      · exact absurd z (Int32.not_lt.mpr c1)
      · exact absurd z (Int32.not_lt.mpr c2)
      · omega
    · refine ⟨n + 1, fun j => if j = n then c else tx j, ?_, ?_, by omega, fun j hj => ?_⟩
      · rw [hset_other (by decide), hset_other (by decide), hset_at, if_pos rfl]
      · rw [hset_at, if_pos rfl]
      · rw [hset_other (by decide), hset_other (by decide), hset_other (by decide), hset_at, hset_other (by decide), hset_at, hset_other (by decide), hset_other (by decide)]
        by_cases e : j = n
        · simp only [if_pos e]; exact ⟨trivial, trivial, c1, c2⟩
        · simp only [if_neg e]; exact t4 j (by omega)
    · refine Tld_q hT ?_ (fun j hj => ?_)
      · rw [hset_other (by decide), hset_other (by decide), hset_other (by decide), hset_other (by decide)]
      · rw [hset_at, if_neg (by omega), hset_other (by decide)]; exact k5 j
    · refine IW_q hi ?_
      rw [hset_other (by decide), hset_other (by decide), hset_other (by decide), hset_other (by decide)]
    · refine Prg_q hp (fun q hq => ?_) (fun j _ => ?_) (fun j hj => ?_)
      · rw [hset_other (by omega), hset_other (by omega), hset_other (by omega), hset_other (by omega)]
      · rw [hset_other (by decide), hset_other (by decide), hset_other (by decide), hset_other (by decide)]
      · rw [hset_at, if_neg (by omega), hset_other (by decide)]; exact k5 j
def PairV (d m1 m2 : Nat) (h : mvH) : Prop := mvCal mvMT d m1 [.inr 0] h (fun r h1 => r = none ∧ mvCal mvMT d m2 [.inr 5] h1 (fun r2 h2 => r2 = none ∧ INV h2))
theorem cp_wipe (hd : 430 ≤ d) (hI : INV h) : PairV d 85 97 h := by
  obtain ⟨⟨n, tx, t1, t2, t3, t4⟩, hT, hi, hp⟩ := hI
  refine s_X4_wipe (by omega) ⟨rfl, s_X5_wipe (by omega) ⟨rfl, ⟨0, tx, ?_, ?_, by omega, fun j hj => by omega⟩, ?_, ?_, ?_⟩⟩
  · rw [hset_other (by decide), hset_at, if_pos rfl]; rfl
  · rw [hset_at, if_pos rfl]; rfl
  · refine Tld_q hT ?_ (fun j hj => ?_)
    · rw [hset_other (by decide), hset_other (by decide)]
    · rw [hset_at, if_neg (by omega), hset_other (by decide)]
  · refine IW_q hi ?_
    rw [hset_other (by decide), hset_other (by decide)]
  · refine Prg_q hp (fun q hq => ?_) (fun j _ => ?_) (fun j hj => ?_)
    · rw [hset_other (by omega), hset_other (by omega)]
    · rw [hset_other (by decide), hset_other (by decide)]
    · rw [hset_at, if_neg (by omega), hset_other (by decide)]
theorem cp_outputs (hd : 430 ≤ d) (hI : INV h) : Pair d 89 136 [] [] h := by
  refine s_X4_outputs (by omega) ⟨⟨_, rfl⟩, s_X5_outputs (by omega) ⟨?_, hI⟩⟩
  rw [hI.2.1.2.1]
theorem cp_open (hd : 430 ≤ d) (hI : INV h) : Pair d 90 137 [] [] h := by
  refine s_X4_open (by omega) ⟨⟨_, rfl⟩, s_X5_open (by omega) ⟨?_, hI⟩⟩
  rw [hI.2.1.2.2.1]
theorem cp_found (hd : 430 ≤ d) (hI : INV h) (x : Int32) : Pair d 94 142 [.inl x] [.inl x] h := by
  refine s_X4_found (by omega) x ⟨⟨_, rfl⟩, s_X5_found (by omega) x ⟨?_, hI⟩⟩
  congr 2
  unfold cTly
  have z0 : h 4 3 ≤ 0 → h 5 50 = 0 → h 5 51 = 0 → h 5 52 = 0 → (if x = 0 then h 5 50 else if x = 1 then h 5 51 else if x = 2 then h 5 52 else 0) = (if 0 < h 4 3 then (if x = 0 then h 4 4 else if x = 1 then h 4 5 else if x = 2 then h 4 6 else 0) else 0) := by
    intro a b c d
    rw [if_neg (Int32.not_lt.mpr a), b, c, d]
    simp
  rcases hI.2.2.2 with ⟨n1, n2, n3, n4, n5, n6, n7, n8, n9, n10, -⟩ | ⟨A, S, rg, -, -, -, -, -, -, -, -, -, -, y⟩
  · exact z0 (by rw [n7]; decide) n8 n9 n10
  · rcases y with ⟨y1, y2, y3, y4⟩ | ⟨y0, y1, y2, y3, y4, y5, y6, y7⟩ | ⟨y0, y1, y2, y3, y4⟩
    · exact z0 (by rw [y1]; decide) y2 y3 y4
    · have hm := aB_m (A := A)
      have hlt : 0 < h 4 3 := by rw [y1]; exact nI_lt (a := 0) (by omega) (by omega)
      rw [if_pos hlt, y2, y3, y4, y5, y6, y7]
    · exact z0 (by rw [y1]; decide) y2 y3 y4
theorem cp_look (hd : 430 ≤ d) (hI : INV h) (x : Int32) : Pair d 92 139 [.inl x] [.inl x] h := by
  refine s_X4_look (by omega) x ⟨⟨_, rfl⟩, s_X5_look (by omega) x ⟨?_, hI⟩⟩
  congr 2
  unfold mLook cLook
  rw [← hI.2.1.1, ← hI.2.1.2.2.2]
  rcases hI.2.2.2 with ⟨n1, n2, n3, n4, n5, n6, -⟩ | ⟨A, S, rg, -, y2, -, y4, y5, y6, y7, -⟩
  · rw [n1, n2, n3, n4, n5, n6, if_pos rfl]
  · rw [y4, y5, y6, y2.1.1, y2.1.2.2.1, if_neg (by decide : ¬ (1 : Int32) = 0)]
    rcases y7 with ⟨s1, s2, s3, s4⟩ | ⟨s1, s2, s3, s4⟩ | ⟨s1, s2, s3, s4⟩
    · rw [s1, s3, s4, if_pos rfl, if_pos rfl]
    · rw [s1, s3, s4, if_pos (show (0 : Int32) = 0 from rfl), if_neg (show ¬ (1 : Int32) = 0 by decide)]
    · rw [s1, s4, if_neg (show ¬ (1 : Int32) = 0 by decide)]
theorem hfill_at {h : mvH} {q n : Nat} {v : Int32} {j : Nat} (hj : j < n) : hfill h q n v q j = v := by simp [hfill, hj]
theorem hfill_o {h : mvH} {q n : Nat} {v : Int32} {q' : Nat} (hq : q' ≠ q) : hfill h q n v q' = h q' := by simp [hfill, hq]
theorem cGtb_0 {j : Nat} : cGtb h 0 j = if j = 6 then 0 else if j = 5 then 1 else h 0 j := by
  unfold cGtb
  rw [hfill_o (by decide), hset_at, hset_at]
theorem cGtb_6 {w : Nat} (hw : w < 4) : cGtb h 6 w = 0 := by
  unfold cGtb
  exact hfill_at hw
theorem cGtb_o {q : Nat} (h0 : q ≠ 0) (h6 : q ≠ 6) : cGtb h q = h q := by
  unfold cGtb
  rw [hfill_o h6, hset_other h0, hset_other h0]
theorem WRD_0 {q b : Nat} (hw : ∀ w, w < 4 → h q (b + w) = 0) : WRD h q b (fun _ => false) := fun c hc => by
  rw [hw (c / 32) (by omega), bt_0 _ (by omega)]
theorem cp_restart (hd : 430 ≤ d) (hI : INV h) : Pair d 88 135 [] [] h := by
  obtain ⟨hX, hT, hi, hp⟩ := hI
  refine s_X4_restart (by omega) (fun h0 => ?_) (fun h0 => ?_)
  · rcases hp with hn | ⟨A, S, rg, y1, y2, y3, y4, y5, y6, y7, y8, y9, y10, y11⟩
    · refine ⟨⟨_, rfl⟩, s_X5_restart (by omega) (fun _ => ⟨rfl, hX, hT, hi, Or.inl hn⟩) (fun z => absurd hn.2.1 z)⟩
    · unfold Stg at y7
      rw [h0] at y7
      rcases y7 with ⟨z, -⟩ | ⟨z, -⟩ | ⟨z, -⟩ <;> exact absurd z (by decide)
  · rcases hp with hn | ⟨A, S, rg, y1, y2, y3, y4, y5, y6, y7, y8, y9, y10, y11⟩
    · exact absurd hn.1 h0
    · have g5 : ∀ q, ¬ (q = 0 ∨ q = 6) → cGtb h q = h q := fun q hq => cGtb_o (by omega) (by omega)
      refine ⟨⟨_, rfl⟩, s_X5_restart (by omega) (fun z => ?_) (fun _ h2 f1 f2 r42 r43 r44 r48 r62 => ⟨rfl, ?_, ?_, ?_, ?_⟩)⟩
      · rw [g5 5 (by decide), y6] at z; exact absurd z (by decide)
      · refine Txt_q hX ?_ ?_ ?_ ?_
        · rw [f1 1 (by decide), g5 1 (by decide)]
        · rw [f2 1 (by decide), g5 5 (by decide)]
        · rw [f1 7 (by decide), g5 7 (by decide)]
        · rw [f1 33 (by decide), g5 33 (by decide)]
      · unfold Tld
        rw [f1 0 (by decide), cGtb_0, cGtb_0, cGtb_0, cGtb_0, r48, f2 45 (by decide), f2 46 (by decide), f2 47 (by decide), g5 5 (by decide)]
        exact ⟨rfl, hT.2⟩
      · exact IW_q hi (by rw [f1 64 (by decide), g5 64 (by decide)])
      · right
        refine ⟨A, S, fun _ => false, y1, CPr_cells y2 (fun j _ => by rw [f1 3 (by decide), g5 3 (by decide)]) (fun q h1 h2 => by rw [f1 q (by omega), g5 q (by omega)]), MdCon_q y3 (fun q h1 h2 => by rw [f1 q (by omega), g5 q (by omega)]), by rw [f2 17 (by decide), g5 5 (by decide)]; exact y4, by rw [f2 25 (by decide), g5 5 (by decide)]; exact y5, by rw [f2 26 (by decide), g5 5 (by decide)]; exact y6, Or.inl ⟨by rw [f1 0 (by decide), cGtb_0]; rfl, r42, r43, r44⟩, WRD_0 (fun w hw => by rw [f1 6 (by decide), Nat.zero_add]; exact cGtb_6 hw), fun c hc => r62 c hc, fun c _ => rfl, ?_⟩
        unfold Srch
        rw [f1 4 (by decide), g5 4 (by decide), f2 50 (by decide), f2 51 (by decide), f2 52 (by decide), g5 5 (by decide)]
        exact y11
theorem cp_registers (hd : 430 ≤ d) (hI : INV h) (x : Int32) : Pair d 91 138 [.inl x] [.inl x] h := by
  have main : ∀ (A : List Th) (rg : Nat → Bool), A.length ≤ 120 → h 5 25 = nI (cntK 1 A) → (∀ c, c < 120 → h 62 c = b1I (rg c)) → Cn A rg → WRD h 6 0 rg → Pair d 91 138 [.inl x] [.inl x] h := by
    intro A rg hA h25 h62 hcn hw
    have hR := cntK_le (A := A) 1
    refine s_X4_registers (by omega) x ⟨⟨_, rfl⟩, s_X5_registers (by omega) x (by omega) h25 h62 hcn ⟨?_, hI⟩⟩
    congr 2
    by_cases x0 : x < 0
    · rw [if_pos x0, if_neg (fun z => absurd x0 (Int32.not_lt.mpr z.1))]
    · rw [if_neg x0]
      obtain ⟨p, hp31, rfl⟩ := nI_of x0
      by_cases x4 : (4 : Int32) ≤ nI p
      · rw [if_pos x4, if_neg (fun z => absurd (Int32.le_trans x4 z.2) (by decide))]
      · rw [if_neg x4]
        have hp : p < 4 := by
          rcases Nat.lt_or_ge p 4 with z | z
          · exact z
          · exact absurd (show (4 : Int32) ≤ nI p from nI_le (a := 4) z hp31) x4
        rw [if_pos ⟨Int32.not_lt.mp x0, nI_le (b := 3) (by omega) (by omega)⟩, ix_nI (by omega)]
        refine bt_ext (fun b hb => ?_)
        rw [bt_oW hb 32 (Nat.le_refl _), decide_eq_true hb, Bool.true_and]
        have := hw (32 * p + b) (by omega)
        rw [show (32 * p + b) / 32 = p by omega, show (32 * p + b) % 32 = b by omega, Nat.zero_add] at this
        exact this.symm
  rcases hI.2.2.2 with ⟨n1, n2, n3, n4, n5, n6, n7, n8, n9, n10, n11, n12⟩ | ⟨A, S, rg, y1, y2, y3, y4, y5, y6, y7, y8, y9, y10, y11⟩
  · exact main [] (fun _ => false) (by decide) n4 n12 (fun _ _ => rfl) (WRD_0 (fun w hw => by rw [Nat.zero_add]; exact n11 w hw))
  · exact main A rg y1.1 y5 y9 y10 y8
theorem StOK_mem {n : Nat} : ∀ (L : List Int32) (t t' : Nat), StOK n L t t' → ∀ y, y ∈ L → ∃ u, u < n ∧ (y = nI u ∨ y = nI u ^^^ (-1)) := by
  intro L
  induction L with
  | nil => intro t t' _ y hy; cases hy
  | cons z L ih =>
    intro t t' hs y hy
    rcases List.mem_cons.mp hy with e | e
    · rw [e]
      rcases hs with ⟨a, b, -⟩ | ⟨⟨u, a, b⟩, -⟩
      · exact ⟨t, b, Or.inl a⟩
      · exact ⟨u, a, Or.inr b⟩
    · rcases hs with ⟨-, -, c⟩ | ⟨-, c⟩
      · exact ih _ _ c y e
      · exact ih _ _ c y e
theorem CPr_WB {A : List Th} {S : List Int32} (hT : TF A) (hp : CPr A S h) : WB h A.length (2 * A.length) (8 + cntK 8 A) ∧ 4 ≤ 8 + cntK 8 A := by
  have hA := hT.1
  have hR := cntK_le (A := A) 8
  obtain ⟨⟨p1, p2, p3, p4⟩, p5, p6, p7, p8, p9⟩ := hp
  refine ⟨⟨p1, hA, p2, by omega, p4, by omega, fun t ht => ?_, fun j hj => ?_⟩, by omega⟩
  · rw [(p5 t ht).2.1]
    by_cases hu : (tA A t).2.2.1 = -1
    · exact Or.inl hu
    · obtain ⟨p, q1, q2, -⟩ := tf_up hT ht hu
      exact Or.inr ⟨p, by omega, q2⟩
  · have hj' : j < S.length := by omega
    obtain ⟨u, u1, u2⟩ := StOK_mem S _ _ p7 _ (List.getElem_mem hj')
    refine ⟨u, u1, ?_⟩
    rw [p9 j _ (List.getElem?_eq_getElem hj')]
    exact u2
end CP

/-! THE CLASS's search is the search -/
theorem bt_oW {f : Nat → Bool} {b : Nat} (hb : b < 32) : ∀ n, n ≤ 32 → bt (oW f n) b = (decide (b < n) && f b) := by
  intro n
  induction n with
  | zero => intro _; exact bt_0 b hb
  | succ n ih =>
    intro hn
    have hs : bt ((1 : Int32) <<< (nI n &&& 31)) b = decide (b = n) := by
      rw [bt_sl _ (by omega) hb]
      by_cases e : n ≤ b
      · rw [decide_eq_true e, Bool.true_and, bt_1 _ (by omega)]
        by_cases e2 : b = n
        · rw [decide_eq_true e2, decide_eq_true (show b - n = 0 by omega)]
        · rw [decide_eq_false e2, decide_eq_false (show ¬ b - n = 0 by omega)]
      · rw [decide_eq_false e, Bool.false_and, decide_eq_false (show ¬ b = n by omega)]
    unfold oW
    by_cases e : b = n
    · rw [decide_eq_true (show b < n + 1 by omega), Bool.true_and]
      have i0 : bt (oW f n) b = false := by rw [ih (by omega), decide_eq_false (show ¬ b < n by omega)]; rfl
      by_cases hf : f n = true
      · rw [if_pos hf, bt_or, i0, hs, decide_eq_true e, e, hf]; rfl
      · rw [if_neg hf, i0, e]
        cases h : f n
        · rfl
        · exact absurd h hf
    · have hd : decide (b < n + 1) = decide (b < n) := by
        by_cases q : b < n
        · rw [decide_eq_true q, decide_eq_true (show b < n + 1 by omega)]
        · rw [decide_eq_false q, decide_eq_false (show ¬ b < n + 1 by omega)]
      rw [hd]
      by_cases hf : f n = true
      · rw [if_pos hf, bt_or, hs, decide_eq_false e, Bool.or_false, ih (by omega)]
      · rw [if_neg hf, ih (by omega)]
theorem any_false {p : Nat → Bool} : ∀ n, (∀ i, i < n → p i = false) → (List.range n).any p = false := by
  intro n h
  rw [any_congr (q := fun _ => false) n h]
  induction n with
  | zero => rfl
  | succ n ih => rw [range_any, ih (fun i hi => h i (by omega))]; rfl
theorem any_true {p : Nat → Bool} : ∀ n i, i < n → p i = true → (List.range n).any p = true := by
  intro n i hi h
  exact List.any_eq_true.mpr ⟨i, List.mem_range.mpr hi, h⟩
theorem msk_0 {x : Int32} (hx : ∀ i, 16 ≤ i → i < 32 → bt x i = false) : (x = 0) ↔ (List.range 16).any (fun l => bt x l) = false := by
  constructor
  · intro h
    rw [h]
    exact any_false 16 (fun i hi => bt_0 i (by omega))
  · intro h
    refine bt_ext (fun i hi => ?_)
    rw [bt_0 i hi]
    by_cases h16 : i < 16
    · cases hb : bt x i
      · rfl
      · rw [any_true 16 i h16 hb] at h; cases h
    · exact hx i (by omega) hi
section SL
variable {A : List Th} {L : List Int32} {rg : Nat → Bool} {g h : mvH}
theorem gv_bt {dec : Int32} (hd : ∀ i, 16 ≤ i → i < 32 → bt dec i = false) {b : Nat} (hb : b < 32) : ∀ n, n ≤ 4 → bt (cGv g dec n) b = (bt (g 4 6) b || (decide (b < n) && (List.range 16).any (fun l => bt (g 29 (4 + b)) l && bt dec l))) := by
  intro n
  induction n with
  | zero => intro _; show bt (g 4 6) b = _; rw [decide_eq_false (show ¬ b < 0 by omega), Bool.false_and, Bool.or_false]
  | succ n ih =>
    intro hn
    have hm : ((g 29 (4 + n) &&& 65535) &&& dec = 0) ↔ (List.range 16).any (fun l => bt (g 29 (4 + n)) l && bt dec l) = false := by
      rw [msk_0 (fun i h1 h2 => by rw [bt_and, hd i h1 h2, Bool.and_false])]
      rw [any_congr (q := fun l => bt (g 29 (4 + n)) l && bt dec l) 16 (fun l hl => by rw [bt_and, bt_and, bt_L l (by omega), decide_eq_true hl, Bool.and_true])]
    have hs : bt ((1 : Int32) <<< (nI n &&& 31)) b = decide (b = n) := by
      rw [bt_sl _ (by omega) hb]
      by_cases e : n ≤ b
      · rw [decide_eq_true e, Bool.true_and, bt_1 _ (by omega)]
        by_cases e2 : b = n
        · rw [decide_eq_true e2, decide_eq_true (show b - n = 0 by omega)]
        · rw [decide_eq_false e2, decide_eq_false (show ¬ b - n = 0 by omega)]
      · rw [decide_eq_false e, Bool.false_and, decide_eq_false (show ¬ b = n by omega)]
    unfold cGv
    by_cases e : b = n
    · have i0 := ih (by omega)
      rw [decide_eq_false (show ¬ b < n by omega), Bool.false_and, Bool.or_false] at i0
      rw [decide_eq_true (show b < n + 1 by omega), Bool.true_and]
      by_cases hz : (g 29 (4 + n) &&& 65535) &&& dec = 0
      · rw [if_pos hz, i0, e, hm.mp hz, Bool.or_false]
      · rw [if_neg hz, bt_or, i0, hs, decide_eq_true e, e]
        cases hq : (List.range 16).any (fun l => bt (g 29 (4 + n)) l && bt dec l)
        · exact absurd (hm.mpr hq) hz
        · rfl
    · have hd : decide (b < n + 1) = decide (b < n) := by
        by_cases q : b < n
        · rw [decide_eq_true q, decide_eq_true (show b < n + 1 by omega)]
        · rw [decide_eq_false q, decide_eq_false (show ¬ b < n + 1 by omega)]
      rw [hd]
      by_cases hz : (g 29 (4 + n) &&& 65535) &&& dec = 0
      · rw [if_pos hz, ih (by omega)]
      · rw [if_neg hz, bt_or, hs, decide_eq_false e, Bool.or_false, ih (by omega)]
theorem tG_bt {i : Nat} {G : Int32} {b : Nat} (hb : b < 32) : ∀ k, bt (tG A i rg G k) b = (bt G b || (decide (b < 4) && (List.range k).any (fun l => decide (aD A rg l (decide (i = 0)) = 0) && aO A rg l (decide (i = 0)) b))) := by
  intro k
  induction k with
  | zero => show bt G b = _; simp
  | succ k ih =>
    rw [range_any]
    unfold tG
    by_cases e : aD A rg k (decide (i = 0)) = 0
    · rw [if_pos e, bt_or, ih, bt_oW hb 4 (by decide), decide_eq_true e, Bool.true_and, Bool.or_assoc, ← Bool.and_or_distrib_left]
    · rw [if_neg e, ih, decide_eq_false e, Bool.false_and, Bool.or_false]
theorem sg_count (hA : A.length ≤ 120) : 8 + cntK 8 A ≤ 128 := by have := cntK_le (A := A) 8; omega
/-- one state looked at -/
theorem st_all (hT : TF A) (hp : CPr A L h) (hi : IW h) {S : Nat → Nat → Bool} {m i : Nat} (hs : SRh A h S m) (him : i < m) {u e : Nat} {G : Int32} (hu : h 4 4 = nI u) (he : h 4 5 = nI e) (hG : h 4 6 = G) :
    RG A (S i) (decide (i = 0)) (cSt h i A.length (2 * A.length) (8 + cntK 8 A)) ∧ SRh A (cSt h i A.length (2 * A.length) (8 + cntK 8 A)) S m ∧ (cSt h i A.length (2 * A.length) (8 + cntK 8 A)) 4 4 = nI (u + tU A i (S i) 16) ∧ (cSt h i A.length (2 * A.length) (8 + cntK 8 A)) 4 5 = nI (e + tE A i (S i) 16) ∧ (cSt h i A.length (2 * A.length) (8 + cntK 8 A)) 4 6 = tG A i (S i) G 16 ∧ (∀ l, l < 16 → (bt (cSl2 h i A.length (2 * A.length) (8 + cntK 8 A)) l = true ↔ aD A (S i) l (decide (i = 0)) = 0 ∧ aE A (S i) l (decide (i = 0)) = false)) ∧ (∀ q, ¬ (q = 3 ∨ q = 4 ∨ (23 ≤ q ∧ q ≤ 30)) → (cSt h i A.length (2 * A.length) (8 + cntK 8 A)) q = h q) ∧ ∀ j, j ≠ 19 → (cSt h i A.length (2 * A.length) (8 + cntK 8 A)) 3 j = h 3 j := by
  have hA := hT.1
  have hm30 := hs.2.2.1
  have hr := RG_run (st := decide (i = 0)) hT hp hi (q := 31) (b := i * 4) (Or.inr ⟨rfl, by omega⟩) (hs.2.2.2 i him).1
  have ef : b1I (!decide (i = 0)) = (if 0 < i then 1 else 0) := by
    by_cases z : i = 0
    · rw [z]; rfl
    · rw [decide_eq_false z, if_pos (by omega)]; rfl
  rw [ef] at hr
  have fr : frI h (cRun h 31 (nI (i * 4)) (if 0 < i then 1 else 0) A.length (2 * A.length) (8 + cntK 8 A)) := cRun_fr
  unfold cSt cSl2
  dsimp only
  generalize cRun h 31 (nI (i * 4)) (if 0 < i then 1 else 0) A.length (2 * A.length) (8 + cntK 8 A) = g at *
  have hfa := fun l (hl : l < 16) => RG_ok hT hr hl
  have dH : ∀ i, 16 ≤ i → i < 32 → bt (cDec g A.length (8 + cntK 8 A)) i = false := fun i h1 h2 => by
    unfold cDec
    rw [bt_and, bt_L i h2, decide_eq_false (by omega), Bool.and_false]
  have dL : ∀ l, l < 16 → bt (cDec g A.length (8 + cntK 8 A)) l = decide (aD A (S i) l (decide (i = 0)) = 0) := fun l hl => by
    unfold cDec
    rw [bt_and, bt_xor, bt_m1 l (by omega), bt_L l (by omega), decide_eq_true hl, Bool.and_true, (hfa l hl).1, Bool.xor_true, Bool.not_not]
  have k4 : ∀ j, g 4 j = h 4 j := fun j => by rw [fr.1 4 (by decide)]
  generalize cDec g A.length (8 + cntK 8 A) = dec at *
  have t4 : ∀ q, ¬ q = 4 → cTal g dec (cEl g &&& dec) q = g q := fun q hq => cTal_o hq
  refine ⟨RG_cells hr (by rw [t4 3 (by decide)]) (fun q h1 h2 => t4 q (by omega)), ⟨?_, hs.2.1, hm30, fun s hs2 => ⟨fun c hc => ?_, (hs.2.2.2 s hs2).2⟩⟩, ?_, ?_, ?_, fun l hl => ?_, fun q hq => ?_, fun j hj => ?_⟩
  · rw [cTal_42, k4]; exact hs.1
  · rw [t4 31 (by decide), fr.1 31 (by decide)]; exact (hs.2.2.2 s hs2).1 c hc
  · unfold cTal
    rw [hset_at, if_neg (by decide), hset_at, if_neg (by decide), hset_at, if_pos rfl, k4, hu, bc_ok (fun i h1 h2 => by rw [bt_and, bt_L i h2, decide_eq_false (by omega), Bool.and_false]), nI_add]
    congr 2
    unfold tU
    refine sumN_congr 16 (fun l hl => ?_)
    rw [bt_and, bt_xor, bt_m1 l (by omega), bt_L l (by omega), decide_eq_true hl, Bool.and_true, Bool.xor_true, dL l hl]
    by_cases z : aD A (S i) l (decide (i = 0)) = 0
    · rw [decide_eq_true z, if_neg (by decide), if_pos z]
    · rw [decide_eq_false z, if_pos (show (!false) = true from rfl), if_neg z]
  · unfold cTal
    rw [hset_at, if_neg (by decide), hset_at, if_pos rfl]
    have e45 : (hset g 4 4 (g 4 4 + cBc ((dec ^^^ (-1)) &&& 65535))) 4 5 = g 4 5 := by rw [hset_at, if_neg (by decide)]
    rw [k4, he, bc_ok (fun i h1 h2 => by rw [bt_and, dH i h1 h2, Bool.and_false]), nI_add]
    congr 2
    unfold tE
    refine sumN_congr 16 (fun l hl => ?_)
    rw [bt_and, dL l hl, (hfa l hl).2.2.2.2.1]
    by_cases z : aD A (S i) l (decide (i = 0)) = 0
    · rw [decide_eq_true z, Bool.and_true]
      by_cases w : aE A (S i) l (decide (i = 0)) = true
      · rw [if_pos w, if_pos ⟨z, w⟩]
      · rw [if_neg w, if_neg (fun q => w q.2)]
    · rw [decide_eq_false z, Bool.and_false, if_neg (by decide), if_neg (fun q => z q.1)]
  · unfold cTal
    rw [hset_at, if_pos rfl]
    refine bt_ext (fun b hb => ?_)
    rw [gv_bt dH hb 4 (Nat.le_refl _), tG_bt hb, k4, hG]
    congr 1
    by_cases hb4 : b < 4
    · congr 1
      refine any_congr 16 (fun l hl => ?_)
      rw [dL l hl, (hfa l hl).2.2.2.2.2.1 b hb4, Bool.and_comm]
    · rw [decide_eq_false hb4, Bool.false_and, Bool.false_and]
  · rw [bt_and, bt_xor, bt_and, bt_m1 l (by omega), Bool.xor_true, dL l hl, (hfa l hl).2.2.2.2.1]
    by_cases z : aD A (S i) l (decide (i = 0)) = 0
    · rw [decide_eq_true z]
      cases aE A (S i) l (decide (i = 0))
      · exact ⟨fun _ => ⟨z, rfl⟩, fun _ => rfl⟩
      · exact ⟨fun q => (by cases q), fun q => (by cases q.2)⟩
    · rw [decide_eq_false z]
      exact ⟨fun q => (by cases q), fun q => absurd q.1 z⟩
  · rw [t4 q (by omega)]; exact fr.1 q (by omega)
  · rw [t4 3 (by decide)]; exact fr.2 j hj
theorem CPr_cells {h' : mvH} (hp : CPr A L h) (h3 : ∀ j, j ≠ 19 → h' 3 j = h 3 j) (hf : ∀ q, 16 ≤ q → q ≤ 21 → h' q = h q) : CPr A L h' := by
  obtain ⟨⟨p1, p2, p3, p4⟩, p5, p6, p7, p8, p9⟩ := hp
  refine ⟨⟨by rw [h3 7 (by decide)]; exact p1, by rw [h3 8 (by decide)]; exact p2, by rw [h3 9 (by decide)]; exact p3, by rw [h3 10 (by decide)]; exact p4⟩, fun t ht => ?_, p6, p7, p8, by rw [hf 21 (by decide) (by decide)]; exact p9⟩
  rw [hf 16 (by decide) (by decide), hf 17 (by decide) (by decide), hf 18 (by decide) (by decide), hf 19 (by decide) (by decide), hf 20 (by decide) (by decide)]
  exact p5 t ht
theorem cLt_s {n sc sg k i m : Nat} (him : i < m) {cb : Bool} {cg : mvH} {cm : Nat} (e : cRf n (cSl2 h i n sc sg) 16 (cSt h i n sc sg) m = (cb, cg, cm)) : cLt n sc sg (k + 1) i h m = if cb = true then cLt n sc sg k (i + 1) cg cm else (false, cg, cm) := by
  have e1 : cLt n sc sg (k + 1) i h m = (match cRf n (cSl2 h i n sc sg) 16 (cSt h i n sc sg) m with
      | (false, g', m') => (false, g', m')
      | (true, g', m') => cLt n sc sg k (i + 1) g' m') := by
    show (if i < m then _ else _) = _
    rw [if_pos him]
    rfl
  rw [e1, e]
  cases cb <;> rfl
theorem cLt_n {n sc sg k i m : Nat} (him : ¬ i < m) : cLt n sc sg (k + 1) i h m = (true, h, m) := by
  show (if i < m then _ else _) = _
  rw [if_neg him]
theorem aLt_n {k i m u e : Nat} {S : Nat → Nat → Bool} {G : Int32} (him : ¬ i < m) : aLt A (k + 1) i S m u e G = (true, S, m, u, e, G) := by
  show (if i < m then _ else _) = _
  rw [if_neg him]
theorem aLt_s {k i m u e : Nat} {S : Nat → Nat → Bool} {G : Int32} (him : i < m) {cb : Bool} {bS : Nat → Nat → Bool} {cm : Nat} (e1 : aRf A i (S i) 16 S m = (cb, bS, cm)) : aLt A (k + 1) i S m u e G = if cb = true then aLt A k (i + 1) bS cm (u + tU A i (S i) 16) (e + tE A i (S i) 16) (tG A i (S i) G 16) else (false, bS, cm, u, e, G) := by
  show (if i < m then _ else _) = _
  rw [if_pos him, e1]
theorem lt_ok (hT : TF A) : ∀ k i (h : mvH) (S : Nat → Nat → Bool) (m u e : Nat) (G : Int32), CPr A L h → IW h → SRh A h S m → h 4 4 = nI u → h 4 5 = nI e → h 4 6 = G →
    (cLt A.length (2 * A.length) (8 + cntK 8 A) k i h m).1 = (aLt A k i S m u e G).1 ∧ ((aLt A k i S m u e G).1 = true → (cLt A.length (2 * A.length) (8 + cntK 8 A) k i h m).2.2 = (aLt A k i S m u e G).2.2.1 ∧ (cLt A.length (2 * A.length) (8 + cntK 8 A) k i h m).2.1 4 4 = nI (aLt A k i S m u e G).2.2.2.1 ∧ (cLt A.length (2 * A.length) (8 + cntK 8 A) k i h m).2.1 4 5 = nI (aLt A k i S m u e G).2.2.2.2.1 ∧ (cLt A.length (2 * A.length) (8 + cntK 8 A) k i h m).2.1 4 6 = (aLt A k i S m u e G).2.2.2.2.2) ∧ (∀ q, ¬ (q = 3 ∨ q = 4 ∨ (23 ≤ q ∧ q ≤ 32)) → (cLt A.length (2 * A.length) (8 + cntK 8 A) k i h m).2.1 q = h q) ∧ ∀ j, j ≠ 19 → (cLt A.length (2 * A.length) (8 + cntK 8 A) k i h m).2.1 3 j = h 3 j := by
  have hA := hT.1
  intro k
  induction k with
  | zero =>
    intro i h S m u e G hp hi hs hu he hG
    exact ⟨rfl, fun _ => ⟨rfl, hu, he, hG⟩, fun _ _ => rfl, fun _ _ => rfl⟩
  | succ k ih =>
    intro i h S m u e G hp hi hs hu he hG
    by_cases him : i < m
    · obtain ⟨a1, a2, a3, a4, a5, a6, a7, a8⟩ := st_all hT hp hi hs him hu he hG
      obtain ⟨r1, r2, r3, r4, r5⟩ := rf_ok hT a1 a6 a2 16 (Nat.le_refl _)
      obtain ⟨f1, f2, f3, f4, f5⟩ := cRf_inv (h := cSt h i A.length (2 * A.length) (8 + cntK 8 A)) (n := A.length) (ls := cSl2 h i A.length (2 * A.length) (8 + cntK 8 A)) 16 m a2.1 a2.2.2.1
      rcases hC : cRf A.length (cSl2 h i A.length (2 * A.length) (8 + cntK 8 A)) 16 (cSt h i A.length (2 * A.length) (8 + cntK 8 A)) m with ⟨cb, cg, cm⟩
      rcases hB : aRf A i (S i) 16 S m with ⟨bb, bS, bm⟩
      rw [hC, hB] at r1 r2 r3
      rw [hC] at f1 f2 f3 f4 f5
      dsimp only at r1 r2 r3 f1 f2 f3 f4 f5
      subst r1
      subst r2
      have q0 : ∀ q, ¬ (q = 3 ∨ q = 4 ∨ (23 ≤ q ∧ q ≤ 32)) → cg q = h q := fun q hq => by rw [f1 q (by omega)]; exact a7 q (by omega)
      have q3 : ∀ j, j ≠ 19 → cg 3 j = h 3 j := fun j hj => by rw [f1 3 (by decide)]; exact a8 j hj
      rw [cLt_s him hC, aLt_s him hB]
      cases cb with
      | false =>
        rw [if_neg (by decide), if_neg (by decide)]
        exact ⟨rfl, fun z => (by cases z), q0, q3⟩
      | true =>
        rw [if_pos rfl, if_pos rfl]
        have := ih (i + 1) cg bS cm (u + tU A i (S i) 16) (e + tE A i (S i) 16) (tG A i (S i) G 16) (CPr_cells hp q3 (fun q h1 h2 => q0 q (by omega))) (fun j hj => by rw [q0 64 (by decide)]; exact hi j hj) r3 (by rw [f4 4 (by decide)]; exact a3) (by rw [f4 5 (by decide)]; exact a4) (by rw [f4 6 (by decide)]; exact a5)
        exact ⟨this.1, this.2.1, fun q hq => by rw [this.2.2.1 q hq]; exact q0 q hq, fun j hj => by rw [this.2.2.2 j hj]; exact q3 j hj⟩
    · rw [cLt_n him, aLt_n him]
      exact ⟨rfl, fun _ => ⟨rfl, hu, he, hG⟩, fun _ _ => rfl, fun _ _ => rfl⟩
end SL

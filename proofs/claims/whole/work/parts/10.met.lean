/-! A CALL OF THE SMALL MACHINE IS A CONTRACT OF THE MACHINE -/
def mvMok (YT : List mvN) (mid : Nat) (M : mvM) : Prop := match M with
  | (y, cc, nL, ret, n, k, bls) => YT[mid]? = some (y, n, k) ∧ mvMw y cc nL ret n k ∧ ∀ q ∈ bls, mvchkB YT y.cls cc nL ret q.1 q.2 = true
theorem mvlook_mem : ∀ {bls : List (Nat × List mvE)} {pc : Nat}, mvlook bls pc = [] ∨ (pc, mvlook bls pc) ∈ bls := by
  intro bls
  induction bls with
  | nil => intro pc; exact Or.inl rfl
  | cons q bls ih =>
    intro pc
    obtain ⟨p0, bl⟩ := q
    unfold mvlook
    split
    · rename_i hp
      have hp : p0 = pc := Nat.eq_of_beq_eq_true hp
      subst hp
      exact Or.inr List.mem_cons_self
    · rcases ih (pc := pc) with h | h
      · exact Or.inl h
      · exact Or.inr (List.mem_cons_of_mem _ h)
section MVRun
variable {YT : List mvN} {p : Program} {l : Launch} {e : Env} {R : Room} {s : State} {m : MethodId} {args : Array Value} {below : List Frame} {meth : Method} {c : Code} {own : String} {cc : ByteArray} {nL : Nat} {ret : Option FieldType} {D : va_G} {cI cC : ClassId} {ad : Nat → Nat} {d : Nat} {Q : Option mvV → mvH → Prop} {cal : mvC}
theorem mv_run (C : mvCx p s m args meth c own cc nL ret D cI cC ad) (hR : (mvRm d).frames + 1 ≤ R.frames ∧ (mvRm d).locals + 40 ≤ R.locals) (hcal : ∀ mid as h Q, cal mid as h Q → mvSnd YT l D cI cC ad d mid as h Q) : ∀ (bl : List mvE) (pc : Nat) (L : mvL) (st : List mvV) (h : mvH), mvchkB YT own cc nL ret pc bl = true →
    mvRun cal Q (mvKK p l e R s m args below meth c nL D cI cC ad (MQ below (mvQc D cI cC ad Q) args s 0 0 (mvA ad))) bl L st h → mvKK p l e R s m args below meth c nL D cI cC ad (MQ below (mvQc D cI cC ad Q) args s 0 0 (mvA ad)) pc L st h := by
  intro bl
  induction bl with
  | nil => intro pc L st h _ hr; exact hr.elim
  | cons e1 bl ih =>
    intro pc L st h hc hr
    simp only [mvchkB, Bool.and_eq_true] at hc
    match bl, ih, hc, hr with
    | [], _, hc, hr => exact mv_step C hR hcal e1 hc.1 (fun _ _ _ z => z) hr
    | e2 :: bl, ih, hc, hr => exact mv_step C hR hcal e1 hc.1 (fun L st h z => ih _ L st h hc.2 z) hr
end MVRun
theorem mvpad_get : ∀ (as : List mvV) (n i : Nat) (v : mvV), mvget (mvpad as n) i = some (some v) → as[i]? = some v := by
  intro as
  induction as with
  | nil =>
    intro n
    induction n with
    | zero => intro i v h; simp [mvpad, mvnon, mvget] at h
    | succ n ih =>
      intro i v h
      match i, h with
      | 0, h => simp [mvpad, mvnon, mvget] at h
      | i + 1, h =>
        have := ih i v (by simpa [mvpad, mvnon, mvget] using h)
        simp at this
  | cons a as ih =>
    intro n i v h
    match i, h with
    | 0, h => simpa [mvpad, mvget] using h
    | i + 1, h => simpa using ih (n - 1) i v (by simpa [mvpad, mvget] using h)
theorem lv_args_get (ad : Nat → Nat) : ∀ (as : List mvV) (k i : Nat) (v : mvV), as[i]? = some v → (k + i, mvtv ad v) ∈ lv_args k (as.map (mvtv ad)) := by
  intro as
  induction as with
  | nil => intro k i v h; simp at h
  | cons a as ih =>
    intro k i v h
    match i, h with
    | 0, h =>
      have h : a = v := by simpa using h
      subst h
      simp [lv_args]
    | i + 1, h =>
      have h1 := ih (k + 1) i v (by simpa using h)
      have e1 : (mvtv ad a).category = 1 := mvtv_cat ad a
      simp only [List.map_cons, lv_args, e1, List.mem_cons]
      exact Or.inr (by rw [show k + (i + 1) = k + 1 + i by omega]; exact h1)
theorem mvsl_len (ad : Nat → Nat) : ∀ (as : List mvV), (lg_sl (as.map (mvtv ad))).length = as.length := by
  intro as
  induction as with
  | nil => rfl
  | cons a as ih =>
    cases a <;> simpa [lg_sl, mvtv, Value.category] using ih
set_option maxHeartbeats 1000000 in
theorem mv_met {YT : List mvN} {MT : Nat → Option mvM} (hMT : ∀ mid M, MT mid = some M → mvMok YT mid M) (l : Launch) (D : va_G) (cI cC : ClassId) (ad : Nat → Nat) (hAd : mvAd ad) : ∀ (d mid : Nat) (as : List mvV) (h : mvH) (Q : Option mvV → mvH → Prop), mvCal MT d mid as h Q → mvSnd YT l D cI cC ad d mid as h Q := by
  intro d
  induction d with
  | zero => intro mid as h Q hc; exact hc.elim
  | succ d ih =>
    intro mid as h Q hc
    unfold mvCal at hc
    split at hc
    · exact hc.elim
    · rename_i y cc nL ret n k bls hM
      obtain ⟨hy, hw, hbl⟩ := hMT mid _ hM
      obtain ⟨hrv, hlen, hK⟩ := hc
      refine ⟨y, cc, nL, ret, n, k, hy, hw, hrv, ?_⟩
      refine Met.ofW (cc := cc) (maxL := nL) (ret := ret) hw.2.2.2.2.2 rfl ?_
      intro p e s m args below meth c s₁ B hml hv
      obtain ⟨rfl, hwd, hKn, hZ, hN⟩ := hv
      have hts0 := atoms_spec (ws := Cond.code y cc nL ret :: mvWS) B.pre
      have C : mvCx p s m (as.map (mvtv ad)).toArray meth c y.cls cc nL ret D cI cC ad := ⟨B.exec, B.bytes, hml, findClass_of_methodNamed B.named, fun w hw => hts0 w (List.mem_cons_of_mem _ hw), B.notSynchronized, hKn, hAd, hZ, B.returns, hN⟩
      have hR : (mvRm d).frames + 1 ≤ (headSpec (Cond.code y cc nL ret :: mvWS) (mvRm (d + 1))).room.frames ∧ (mvRm d).locals + 40 ≤ (headSpec (Cond.code y cc nL ret :: mvWS) (mvRm (d + 1))).room.locals := ⟨Nat.le_refl _, by show 40 * d + 200 + 40 ≤ 40 * (d + 1) + 200; omega⟩
      have key := hK (mvKK p l e _ s m (as.map (mvtv ad)).toArray below meth c nL D cI cC ad (MQ below (mvQc D cI cC ad Q) (as.map (mvtv ad)).toArray s 0 0 (mvA ad))) (fun pc L st h hr => by
        rcases mvlook_mem (bls := bls) (pc := pc) with z | z
        · rw [z] at hr; exact hr.elim
        · exact mv_run C hR (fun mid as h Q => ih mid as h Q) _ _ _ _ _ (hbl _ z) hr)
      rw [lg_entry_eq]
      refine key s.heap [] _ ?_ hwd va_S.rf
      have hl := lv_entry (as.map (mvtv ad)) (n := nL) (by rw [mvsl_len]; exact hlen)
      refine ⟨hl.1, hl.2.1, fun i v hi => ?_⟩
      have h1 := lv_args_get ad as 0 i v (mvpad_get _ _ _ _ hi)
      rw [Nat.zero_add] at h1
      exact hl.2.2 _ h1

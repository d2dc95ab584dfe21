/-! answers, calls -/
section MVR
variable {p : Program} {l : Launch} {e : Env} {R : Room} {s : State} {m : MethodId} {args : Array Value} {below : List Frame} {meth : Method} {c : Code} {own : String} {cc : ByteArray} {nL : Nat} {ret : Option FieldType} {D : va_G} {cI cC : ClassId} {ad : Nat → Nat} {QW : State → Prop} {pc : Nat} {L : mvL} {st : List mvV} {h : mvH} {Q : Option mvV → mvH → Prop}
/-- what may be answered, by the kind of the answer -/
def mvRb (ret : Option FieldType) (b : Nat) : Prop := match b with
  | 0 => ret = some .int
  | 1 => ret = some .boolean
  | 2 => ret = some .char
  | _ => False
theorem mvnar_char {v : Int32} (h : 0 ≤ v ∧ v ≤ 65535) : narrow .char (.int v) = .int v ∧ vp_nar .char v = v := by
  obtain ⟨j, hj, rfl⟩ := nI_of2 (x := v) (M := 65535) (n := 65535) (by decide) (Int32.not_lt.mpr h.1) h.2
  have h1 := (pk_charN (q := j) (by omega)).1
  exact ⟨h1, by unfold vp_nar; rw [h1]⟩
theorem ms_iret (C : mvCx p s m args meth c own cc nL ret D cI cC ad) {n b : Nat} {v : Int32} (hd : decode cc pc = .ok (.ireturn, n)) (hn : n = 1) (hb2 : mvRb ret b) (hv : mvfit b v) (hq : Q (some (.inl v)) h) :
    mvKK p l e R s m args below meth c nL D cI cC ad (MQ below (mvQc D cI cC ad Q) args s 0 0 (mvA ad)) pc L [.inl v] h := by
  obtain ⟨hx, hb, hml, hown, hts, hlk, hK, hAd, hZ, hr, hN⟩ := C
  subst hn
  intro H locs ls a1 a2 a3
  have hfin : ∀ t : State, t.heap = H → s.WarmedH t.vm → mvQc D cI cC ad Q args s (.returned (some (.int v))) t := by
    intro t ht _
    exact ⟨⟨some (.inl v), h, rfl, hq, by rw [ht]; exact a2⟩, a3.F ht⟩
  match b, hb2, hv with
  | 0, hb2, _ => exact W.iret hx hb (hr.trans hb2) hfin a3.2.2 hd hlk
  | 1, hb2, hv => exact W.zret hx hb (hr.trans hb2) (by rcases hv with rfl | rfl <;> rfl) hfin a3.2.2 hd hlk
  | 2, hb2, hv => exact W.zret hx hb (hr.trans hb2) (mvnar_char hv).1 hfin a3.2.2 hd hlk
theorem ms_vret (C : mvCx p s m args meth c own cc nL ret D cI cC ad) {n : Nat} (hd : decode cc pc = .ok (.return_, n)) (hn : n = 1) (hb2 : ret = none) (hq : Q none h) :
    mvKK p l e R s m args below meth c nL D cI cC ad (MQ below (mvQc D cI cC ad Q) args s 0 0 (mvA ad)) pc L [] h := by
  obtain ⟨hx, hb, hml, hown, hts, hlk, hK, hAd, hZ, hr, hN⟩ := C
  subst hn
  intro H locs ls a1 a2 a3
  exact W.vret hx hb (hr.trans hb2) (fun t ht _ => ⟨⟨none, h, rfl, hq, by rw [ht]; exact a2⟩, a3.F ht⟩) a3.2.2 hd hlk
end MVR
/-! CONTRACTS: a call of the small machine is a contract of the machine -/
def mvPc (D : va_G) (cI cC : ClassId) (ad : Nat → Nat) (as : List mvV) (h : mvH) : Array Value → State → Prop := va_Pc (as.map (mvtv ad)) (fun U => mvWd D cI cC ad h U.heap ∧ va_K D vwCl (mvTy cI cC) U ∧ mvZ ad U ∧ ∀ w ∈ mvNW, va_Nw w U)
def mvRm (d : Nat) : Room := { frames := d, cells := 0, slots := 0, locals := 40 * d + 200 }
theorem mvNW_tab : ∀ w ∈ mvNW, w.onTables = true := by decide +kernel
theorem mvNW_warm {s U : State} (hW : s.WarmedH U.vm) (h : ∀ w ∈ mvNW, va_Nw w s) : ∀ w ∈ mvNW, va_Nw w U := by
  intro w hw
  have h1 := h w hw
  have hk : ∀ w ∈ mvNW, ∃ a i b n d h, w = .fieldLinkNest a i b n d h := by
    simp only [mvNW, List.forall_mem_cons]
    refine ⟨⟨_, _, _, _, _, _, rfl⟩, ⟨_, _, _, _, _, _, rfl⟩, ⟨_, _, _, _, _, _, rfl⟩, ⟨_, _, _, _, _, _, rfl⟩, ⟨_, _, _, _, _, _, rfl⟩, fun w h => by cases h⟩
  obtain ⟨a, i, b, n, d, hh, rfl⟩ := hk w hw
  exact va_Nw.warmF hW h1
theorem mvPc_blind {D : va_G} {cI cC : ClassId} {ad : Nat → Nat} {as : List mvV} {h : mvH} : FrameBlind (mvPc D cI cC ad as h) := by
  intro a U g mk q
  obtain ⟨q1, q2, q3, q4, q5⟩ := q
  have hA : Vm.Alike U.vm (U.calling g mk a).vm := Vm.Alike.refl U.vm
  exact ⟨q1, q2, va_K.moved hA q3, ⟨va_Z.moved hA q4.1, va_T.moved hA q4.2⟩, fun w hw => va_Nw.same (u := U) (U := U.calling g mk a) (mvNW_tab w hw) rfl (q5 w hw)⟩
theorem mvZ_moved {ad : Nat → Nat} {s U : State} {H : Heap} {locs : List Loc} (hZ : mvZ ad s) (hS : va_S (mvA ad) s.heap H locs) (hU : U.heap = H) (hW : s.WarmedH U.vm) : mvZ ad U := by
  have hk : ∀ a : Nat, a < s.heap.size → ¬ mvA ad a → H[a]? = s.heap[a]? := hS.2.1
  refine ⟨?_, ?_⟩
  · rw [hU]; exact va_Z.moved hW.alike (va_Z.kept hZ.1 hk)
  · rw [hU]; exact va_T.moved hW.alike (va_T.kept hZ.2 hk)
section MVCall
variable {p : Program} {l : Launch} {e : Env} {R : Room} {s : State} {m : MethodId} {args : Array Value} {below : List Frame} {meth : Method} {c : Code} {own : String} {cc : ByteArray} {nL : Nat} {ret : Option FieldType} {D : va_G} {cI cC : ClassId} {ad : Nat → Nat} {QW : State → Prop} {pc : Nat} {L : mvL} {st r : List mvV} {h : mvH}
theorem mvpop_spec : ∀ (n : Nat) (st acc : List mvV) (k : List mvV → List mvV → Prop), mvpop n st acc k → ∃ as r, st = as ++ r ∧ as.length = n ∧ k (as.reverse ++ acc) r := by
  intro n
  induction n with
  | zero => intro st acc k h; exact ⟨[], st, rfl, rfl, h⟩
  | succ n ih =>
    intro st acc k h
    match st, h with
    | v :: st, h =>
      obtain ⟨as, r, h1, h2, h3⟩ := ih st (v :: acc) k h
      exact ⟨v :: as, r, by rw [h1]; rfl, by simp [h2], by simpa using h3⟩
theorem mvcat (ad : Nat → Nat) : ∀ (st : List mvV), ((st.map (mvtv ad)).map fun v => v.category).sum = st.length := by
  intro st
  induction st with
  | nil => rfl
  | cons v st ih => simp only [List.map_cons, List.sum_cons, mvtv_cat, ih, List.length_cons]; omega
theorem ms_ret {mc ms : Nat} {g : JFrame} (hg : g = F0 m pc ((g.locals) : Array Slot) g.stack) {H : Heap} {locs : List Loc} {Qc : Option mvV → mvH → Prop} {a : Array Value} (hS : va_S (mvA ad) s.heap H locs)
    (hr : va_Run p l e R s m args below meth c H locs 0 0 0 0 g (r.map (mvtv ad)) (mvQc D cI cC ad Qc a) (mvA ad)) {ls : Array Slot} (hls : g.locals = ls) (hl : mvLs ad nL L ls)
    (kk : ∀ v h', Qc v h' → mvKK p l e R s m args below meth c nL D cI cC ad QW (pc + 3) L (mvret v r) h') : W p l e R s m args below meth c H locs 0 0 QW g := by
  intro T hT X
  obtain ⟨v, st₀, t, T', Lc, h0, X', hL, e1, e2, ⟨⟨rv, h', hv, hq, hwd⟩, hz, hk⟩, stp⟩ := hr T hT X
  have hv : v = rv.map (mvtv ad) := Outcome.returned.inj hv
  rw [h0] at hz hk
  have hS' : va_S (mvA ad) s.heap T'.heap (locs ++ Lc) := ⟨Nat.le_trans hS.1 (by rw [e1]; exact hz), fun q h1 h2 => by rw [e1, hk q (Nat.lt_of_lt_of_le h1 hS.1) h2]; exact hS.2.1 q h1 h2, fun q hq => by
      rcases List.mem_append.mp hq with z | z
      · exact hS.2.2 q z
      · exact hL q z⟩
  obtain ⟨t2, b1, b2⟩ := kk rv h' hq T'.heap (locs ++ Lc) ls hl (by rw [e1]; exact hwd) hS' T' rfl X'
  refine ⟨t2, stp t2 ?_, b2⟩
  have hfr : ({ g with pc := g.pc + 3, stack := v.toList ++ r.map (mvtv ad) } : JFrame) = F0 m (pc + 3) ls ((mvret rv r).map (mvtv ad)) := by
    rw [hg]
    subst hls
    subst hv
    cases rv <;> rfl
  rw [hfr]
  exact b1
end MVCall

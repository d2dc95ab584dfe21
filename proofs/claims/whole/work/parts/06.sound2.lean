/-! fields, arrays, answers -/
/-- what the classes' tables say, class by class -/
theorem mvcl_in {ci : Nat} {C : String} {T : u_T} {N : Nat} (h : vwCl[ci]? = some (C, T, N)) : (∀ w ∈ u_ws C T N, w ∈ mvWS) ∧ (∃ ty : Nat → FieldType, ∀ k, k < N → parseFieldDescriptor (T k).2.2.1 = some (ty k)) ∧ (∀ a, a < N → ∀ b, b < N → a ≠ b → (T a).2.1 ≠ (T b).2.1) := by
  match ci, h with
  | 0, h => cases h; exact ⟨mvin0, ⟨tyX0, tyX0_ok⟩, nmX0⟩
  | 1, h => cases h; exact ⟨mvin1, ⟨tyX1, tyX1_ok⟩, nmX1⟩
  | 2, h => cases h; exact ⟨mvin2, ⟨tyX2, tyX2_ok⟩, nmX2⟩
  | 3, h => cases h; exact ⟨mvin3, ⟨tyX3, tyX3_ok⟩, nmX3⟩
  | 4, h => cases h; exact ⟨mvin4, ⟨tyX4, tyX4_ok⟩, nmX4⟩
  | 5, h => cases h; exact ⟨mvin5, ⟨tyX5, tyX5_ok⟩, nmX5⟩
  | n + 6, h => simp [vwCl] at h
/-- an object's fields are those of its class: their number, and what may be written -/
def mvfsok (fs : List Nat) (T : u_T) (N : Nat) : Bool := fs.length == N && (List.range N).all (fun k => match mvget fs k with
  | some 0 => (T k).2.2.1 == "I" && !(T k).2.2.2
  | some 1 => (T k).2.2.1 == "Z" && !(T k).2.2.2
  | some _ => true
  | none => false)
theorem mvget_eq {α : Type} : ∀ (l : List α) (i : Nat), mvget l i = l[i]? := by
  intro l
  induction l with
  | nil => intro i; simp [mvget]
  | cons x l ih =>
    intro i
    match i with
    | 0 => simp [mvget]
    | i + 1 => simp [mvget, ih]
theorem mvObj_ok {q ci : Nat} {fs : List Nat} (h : mvObj q = some (ci, fs)) : q < 6 ∧ ∃ (C : String) (T : u_T) (N : Nat), vwCl[ci]? = some (C, T, N) ∧ mvfsok fs T N = true := by
  match q, h with
  | 0, h => cases h; exact ⟨by decide, _, _, _, rfl, by decide +kernel⟩
  | 1, h => cases h; exact ⟨by decide, _, _, _, rfl, by decide +kernel⟩
  | 2, h => cases h; exact ⟨by decide, _, _, _, rfl, by decide +kernel⟩
  | 3, h => cases h; exact ⟨by decide, _, _, _, rfl, by decide +kernel⟩
  | 4, h => cases h; exact ⟨by decide, _, _, _, rfl, by decide +kernel⟩
  | 5, h => cases h; exact ⟨by decide, _, _, _, rfl, by decide +kernel⟩
  | n + 6, h => cases h
theorem mvFs_len {ad : Nat → Nat} {h : mvH} {q : Nat} : ∀ (fs : List Nat) (k : Nat), (mvFs ad h q k fs).length = fs.length := by
  intro fs
  induction fs with
  | nil => intro k; rfl
  | cons f fs ih =>
    intro k
    match f with
    | 0 => simp [mvFs, ih]
    | 1 => simp [mvFs, ih]
    | n + 2 => simp [mvFs, ih]
theorem mvFs_get {ad : Nat → Nat} {h : mvH} {q : Nat} : ∀ (fs : List Nat) (k a f : Nat), mvget fs a = some f → (mvFs ad h q k fs)[a]? = some (match f with
    | n + 2 => .ref (ad n)
    | _ => .int (h q (k + a))) := by
  intro fs
  induction fs with
  | nil => intro k a f e; cases e
  | cons g fs ih =>
    intro k a f e
    match a, e with
    | 0, e =>
      cases e
      match g with
      | 0 => rfl
      | 1 => rfl
      | n + 2 => rfl
    | a + 1, e =>
      have h1 := ih (k + 1) a f e
      rw [show k + 1 + a = k + (a + 1) by omega] at h1
      match g with
      | 0 => exact h1
      | 1 => exact h1
      | n + 2 => exact h1
theorem hset_at {h : mvH} {q j k : Nat} {v : Int32} : hset h q j v q k = if k = j then v else h q k := by simp [hset, upd]
theorem mvFs_set {ad : Nat → Nat} {h : mvH} {q j : Nat} {v : Int32} : ∀ (fs : List Nat) (k a f : Nat), mvget fs a = some f → f < 2 → k + a = j → (mvFs ad h q k fs).set a (.int v) = mvFs ad (hset h q j v) q k fs := by
  intro fs
  induction fs with
  | nil => intro k a f e; cases e
  | cons g fs ih =>
    intro k a f e hf hj
    match a, e with
    | 0, e =>
      cases e
      have hne : ∀ (gs : List Nat) (k' : Nat), j < k' → mvFs ad h q k' gs = mvFs ad (hset h q j v) q k' gs := by
        intro gs
        induction gs with
        | nil => intro k' _; rfl
        | cons g' gs ih' =>
          intro k' hk'
          have hv : hset h q j v q k' = h q k' := by
            rw [hset_at, if_neg (by omega)]
          match g' with
          | 0 => simp only [mvFs, hv, ih' (k' + 1) (by omega)]
          | 1 => simp only [mvFs, hv, ih' (k' + 1) (by omega)]
          | n + 2 => simp only [mvFs, ih' (k' + 1) (by omega)]
      have hv : hset h q j v q k = v := by
        rw [hset_at, if_pos (by omega)]
      match g, hf with
      | 0, _ => simp only [mvFs, List.set_cons_zero, hv, hne fs (k + 1) (by omega)]
      | 1, _ => simp only [mvFs, List.set_cons_zero, hv, hne fs (k + 1) (by omega)]
      | n + 2, hf => omega
    | a + 1, e =>
      have h1 := ih (k + 1) a f e hf (by omega)
      have hv : hset h q j v q k = h q k := by
        rw [hset_at, if_neg (by omega)]
      match g with
      | 0 => simp only [mvFs, List.set_cons_succ, hv, h1]
      | 1 => simp only [mvFs, List.set_cons_succ, hv, h1]
      | n + 2 => simp only [mvFs, List.set_cons_succ, h1]
theorem mvfsok_spec {fs : List Nat} {T : u_T} {N : Nat} (h : mvfsok fs T N = true) : fs.length = N ∧ ∀ k f, mvget fs k = some f → k < N ∧ (f = 0 → (T k).2.2.1 = "I" ∧ (T k).2.2.2 = false) ∧ (f = 1 → (T k).2.2.1 = "Z" ∧ (T k).2.2.2 = false) := by
  simp only [mvfsok, Bool.and_eq_true, beq_iff_eq] at h
  refine ⟨h.1, fun k f hk => ?_⟩
  have hlt : k < N := by
    rw [mvget_eq] at hk
    rw [← h.1]
    exact (List.getElem?_eq_some_iff.mp hk).1
  have h2 := List.all_eq_true.mp h.2 k (List.mem_range.mpr hlt)
  rw [hk] at h2
  refine ⟨hlt, fun e => ?_, fun e => ?_⟩
  · subst e
    simpa using h2
  · subst e
    simpa using h2
theorem mvCe_obj {ad : Nat → Nat} {cI cC : ClassId} {h : mvH} {q ci : Nat} {fs : List Nat} (e : mvObj q = some (ci, fs)) : mvCe ad cI cC h q = .inr (ci, mvFs ad h q 0 fs) := by
  unfold mvCe; rw [e]
theorem mvArr_obj {q : Nat} {x : Nat × Nat} (e : mvArr q = some x) : mvObj q = none := by
  match q, e with
  | n + 6, _ => rfl
theorem mvCe_int {ad : Nat → Nat} {cI cC : ClassId} {h : mvH} {q n : Nat} (e : mvArr q = some (n, 0)) : mvCe ad cI cC h q = .inl (cI, n, .inl (h q)) := by
  unfold mvCe; rw [mvArr_obj e, e] <;> rfl
theorem mvCe_chr {ad : Nat → Nat} {cI cC : ClassId} {h : mvH} {q n : Nat} (e : mvArr q = some (n, 1)) : mvCe ad cI cC h q = .inl (cC, n, .inl (h q)) := by
  unfold mvCe; rw [mvArr_obj e, e] <;> rfl
theorem hset_other {h : mvH} {q j : Nat} {v : Int32} {q' : Nat} (hq : q' ≠ q) : hset h q j v q' = h q' := by simp [hset, hq]
theorem hset_same {h : mvH} {q j : Nat} {v : Int32} : hset h q j v q = upd (h q) j v := by simp [hset]
section MVF
variable {p : Program} {l : Launch} {e : Env} {R : Room} {s : State} {m : MethodId} {args : Array Value} {below : List Frame} {meth : Method} {c : Code} {own : String} {cc : ByteArray} {nL : Nat} {ret : Option FieldType} {D : va_G} {cI cC : ClassId} {ad : Nat → Nat} {QW : State → Prop} {pc : Nat} {L : mvL} {st : List mvV} {h : mvH}
theorem ms_getf (C : mvCx p s m args meth c own cc nL ret D cI cC ad) {n a i q ci f : Nat} {fs : List Nat} {Cn : String} {T : u_T} {N : Nat} {v : mvV} (hd : decode cc pc = .ok (.getfield i, n)) (hn : n = 3) (ho : mvObj q = some (ci, fs)) (hc : vwCl[ci]? = some (Cn, T, N)) (hf : mvget fs a = some f) (hv : v = (match f with
      | z + 2 => .inr z
      | _ => .inl (h q a)))
    (hl : Cond.fieldLink own i (T a).1 (T a).2.1 (T a).2.2.1 ∈ mvFL ∨ Cond.fieldLinkNest own i (T a).1 (T a).2.1 (T a).2.2.1 "ReactWires" ∈ mvNW)
    (k : mvKK p l e R s m args below meth c nL D cI cC ad QW (pc + n) L (v :: st) h) : mvKK p l e R s m args below meth c nL D cI cC ad QW pc L (.inr q :: st) h := by
  obtain ⟨hx, hb, hml, hown, hts, hlk, hK, hAd, hZ, hr, hN⟩ := C
  subst hn
  obtain ⟨hq6, C', T', N', hc', hok⟩ := mvObj_ok ho
  cases hc.symm.trans hc'
  obtain ⟨hlen, hsp⟩ := mvfsok_spec hok
  have hq : q < mvNC := Nat.lt_of_lt_of_le hq6 (by decide)
  have hg := mvFs_get (ad := ad) (h := h) (q := q) fs 0 a f hf
  intro H locs ls a1 a2 a3
  have he : (mvW ad cI cC h)[q]? = some (ad q, .inr (ci, mvFs ad h q 0 fs)) := by rw [mvW_get hq, mvCe_obj ho]
  have hval : (mvFs ad h q 0 fs)[a]? = some (mvtv ad v) := by
    rw [hg, hv]
    match f with
    | 0 => simp [mvtv]
    | 1 => simp [mvtv]
    | z + 2 => rfl
  rcases hl with hl | hl
  · exact va_get hx hb hts (mvcl_in hc).1 hown hK a2.1 q he hc a (hsp a f hf).1 (hts _ (mvFL_in _ hl)) (fun _ z => z) hval hd (k H locs ls a1 a2 a3)
  · exact va_getN hx hb hts (mvcl_in hc).1 hown hK a2.1 q he hc a (hsp a f hf).1 (va_Nw.use rfl (hN _ hl)) (fun _ z => z) hval hd (k H locs ls a1 a2 a3)
theorem ms_putf (C : mvCx p s m args meth c own cc nL ret D cI cC ad) {n a i q ci f : Nat} {fs : List Nat} {Cn : String} {T : u_T} {N : Nat} {v : Int32} (hd : decode cc pc = .ok (.putfield i, n)) (hn : n = 3) (ho : mvObj q = some (ci, fs)) (hc : vwCl[ci]? = some (Cn, T, N)) (hf : mvget fs a = some f) (hf2 : f = 0 ∨ (f = 1 ∧ mvfit 1 v))
    (hl : Cond.fieldLink own i (T a).1 (T a).2.1 (T a).2.2.1 ∈ mvFL)
    (k : mvKK p l e R s m args below meth c nL D cI cC ad QW (pc + n) L st (hset h q a v)) : mvKK p l e R s m args below meth c nL D cI cC ad QW pc L (.inl v :: .inr q :: st) h := by
  obtain ⟨hx, hb, hml, hown, hts, hlk, hK, hAd, hZ, hr, hN⟩ := C
  subst hn
  obtain ⟨hq6, C', T', N', hc', hok⟩ := mvObj_ok ho
  cases hc.symm.trans hc'
  obtain ⟨hlen, hsp⟩ := mvfsok_spec hok
  obtain ⟨hlt, hp0, hp1⟩ := hsp a f hf
  have hq : q < mvNC := Nat.lt_of_lt_of_le hq6 (by decide)
  intro H locs ls a1 a2 a3
  have he : (mvW ad cI cC h)[q]? = some (ad q, .inr (ci, mvFs ad h q 0 fs)) := by rw [mvW_get hq, mvCe_obj ho]
  obtain ⟨hin, ⟨ty, hty⟩, hnm⟩ := mvcl_in hc
  have hset' : (mvFs ad h q 0 fs).set a (.int v) = mvFs ad (hset h q a v) q 0 fs := mvFs_set fs 0 a f hf (by omega) (by omega)
  have hw : (mvW ad cI cC h).set q (ad q, .inr (ci, (mvFs ad h q 0 fs).set a (.int v))) = mvW ad cI cC (hset h q a v) := mvW_set (by rw [mvCe_obj ho, hset']) (fun j hj => hset_other hj)
  have fin : ∀ (H1 : Heap) (locs1 : List Loc), va_P D vwCl ((mvW ad cI cC h).set q (ad q, .inr (ci, (mvFs ad h q 0 fs).set a (.int v)))) H1 → va_S (mvA ad) s.heap H1 locs1 → W p l e R s m args below meth c H1 locs1 0 0 QW (F0 m (pc + 3) ls (st.map (mvtv ad))) := by
    intro H1 locs1 h1 h2
    rw [hw] at h1
    exact k H1 locs1 ls a1 ⟨h1, fun j hj => by rw [hset_other (show mvNC ≠ q by omega)]; exact a2.2 j hj⟩ h2
  have hal : a < (mvFs ad h q 0 fs).length := by rw [mvFs_len, hlen]; exact hlt
  rcases hf2 with rfl | ⟨rfl, hfit⟩
  · obtain ⟨hds, hfn⟩ := hp0 rfl
    exact va_put hx hb hts hin ty hty hnm hown hK a2.1 (mvW_D hAd) a3 q he hc a hlt (hts _ (mvFL_in _ hl)) (fun _ z => z) hfn (ty := .int) (v := .int v) (by rw [hds]; decide +kernel) rfl rfl hal hd (fun H1 locs1 h1 _ h2 => fin H1 locs1 h1 h2)
  · obtain ⟨hds, hfn⟩ := hp1 rfl
    exact va_put hx hb hts hin ty hty hnm hown hK a2.1 (mvW_D hAd) a3 q he hc a hlt (hts _ (mvFL_in _ hl)) (fun _ z => z) hfn (ty := .boolean) (v := .int v) (by rw [hds]; decide +kernel) (by rcases hfit with rfl | rfl <;> rfl) (by rcases hfit with rfl | rfl <;> rfl) hal hd (fun H1 locs1 h1 _ h2 => fin H1 locs1 h1 h2)
theorem ms_gets (C : mvCx p s m args meth c own cc nL ret D cI cC ad) {n i : Nat} (hd : decode cc pc = .ok (.getstatic i, n)) (hn : n = 3) (hl : Cond.fieldLink own i "ReactWires$Wires" "INPUT_WIRES" "[I" ∈ mvFL)
    (k : mvKK p l e R s m args below meth c nL D cI cC ad QW (pc + n) L (.inr mvNC :: st) h) : mvKK p l e R s m args below meth c nL D cI cC ad QW pc L st h := by
  obtain ⟨hx, hb, hml, hown, hts, hlk, hK, hAd, hZ, hr, hN⟩ := C
  subst hn
  intro H locs ls a1 a2 a3
  exact va_gets hx hb hZ.1 a3 hown (hts _ (mvFL_in _ hl)) (fun _ z => z) hd (k H locs ls a1 a2 a3)
theorem mvArr_lt {q : Nat} {x : Nat × Nat} (e : mvArr q = some x) : q < mvNC ∨ (q = mvNC ∧ x = (4, 0)) := by
  match q, e with
  | n + 6, e =>
    have e : mvget mvArrs n = some x := e
    rw [mvget_eq] at e
    have h1 := (List.getElem?_eq_some_iff.mp e).1
    have h2 : mvArrs.length = 59 := by decide
    by_cases h3 : n = 58
    · subst h3
      refine Or.inr ⟨by decide, ?_⟩
      have h4 : mvArrs[58]? = some (4, 0) := by decide
      exact (Option.some.inj (h4.symm.trans e)).symm
    · exact Or.inl (by show n + 6 < 64; omega)
theorem ms_iald (C : mvCx p s m args meth c own cc nL ret D cI cC ad) {n q w : Nat} {j : Int32} (hd : decode cc pc = .ok (.iaload, n)) (hn : n = 1) (ha : mvArr q = some (w, 0)) (hj : vp_in j w)
    (k : mvKK p l e R s m args below meth c nL D cI cC ad QW (pc + n) L (.inl (h q j.toNatClampNeg) :: st) h) : mvKK p l e R s m args below meth c nL D cI cC ad QW pc L (.inl j :: .inr q :: st) h := by
  obtain ⟨hx, hb, hml, hown, hts, hlk, hK, hAd, hZ, hr, hN⟩ := C
  subst hn
  intro H locs ls a1 a2 a3
  rcases mvArr_lt ha with hq | ⟨rfl, hw⟩
  · exact va_iald hx hb hK a2.1 q 0 (by rw [mvW_get hq, mvCe_int ha]) rfl hj hd (k H locs ls a1 a2 a3)
  · cases hw
    have hlt : j.toNatClampNeg < 4 := Nat.not_le.mp fun z => hj (Or.inr z)
    exact va_ti hx hb hZ.2 a3 hj (v := .int (h mvNC j.toNatClampNeg)) (by show Value.int (mvIn _) = _; rw [a2.2 _ hlt]) hd (k H locs ls a1 a2 a3)
theorem ms_cald (C : mvCx p s m args meth c own cc nL ret D cI cC ad) {n q w : Nat} {j : Int32} (hd : decode cc pc = .ok (.caload, n)) (hn : n = 1) (ha : mvArr q = some (w, 1)) (hj : vp_in j w)
    (k : mvKK p l e R s m args below meth c nL D cI cC ad QW (pc + n) L (.inl (h q j.toNatClampNeg) :: st) h) : mvKK p l e R s m args below meth c nL D cI cC ad QW pc L (.inl j :: .inr q :: st) h := by
  obtain ⟨hx, hb, hml, hown, hts, hlk, hK, hAd, hZ, hr, hN⟩ := C
  subst hn
  intro H locs ls a1 a2 a3
  rcases mvArr_lt ha with hq | ⟨rfl, hw⟩
  · exact va_cald hx hb hK a2.1 q 1 (by rw [mvW_get hq, mvCe_chr ha]) rfl hj hd (k H locs ls a1 a2 a3)
  · cases hw
theorem ms_iast (C : mvCx p s m args meth c own cc nL ret D cI cC ad) {n q w : Nat} {j v : Int32} (hd : decode cc pc = .ok (.iastore, n)) (hn : n = 1) (hq : q < mvNC) (ha : mvArr q = some (w, 0)) (hj : vp_in j w)
    (k : mvKK p l e R s m args below meth c nL D cI cC ad QW (pc + n) L st (hset h q j.toNatClampNeg v)) : mvKK p l e R s m args below meth c nL D cI cC ad QW pc L (.inl v :: .inl j :: .inr q :: st) h := by
  obtain ⟨hx, hb, hml, hown, hts, hlk, hK, hAd, hZ, hr, hN⟩ := C
  subst hn
  intro H locs ls a1 a2 a3
  refine va_iast hx hb hK a2.1 (mvW_D hAd) a3 q 0 (by rw [mvW_get hq, mvCe_int ha]) rfl hj hd (fun H1 locs1 h1 _ h2 => ?_)
  rw [mvW_set (h' := hset h q j.toNatClampNeg v) (by rw [mvCe_int ha, hset_same]) (fun z hz => hset_other hz)] at h1
  exact k H1 locs1 ls a1 ⟨h1, fun z hz => by rw [hset_other (show mvNC ≠ q by omega)]; exact a2.2 z hz⟩ h2
theorem ms_cast (C : mvCx p s m args meth c own cc nL ret D cI cC ad) {n q w : Nat} {j v : Int32} (hd : decode cc pc = .ok (.castore, n)) (hn : n = 1) (hq : q < mvNC) (ha : mvArr q = some (w, 1)) (hj : vp_in j w) (hv : vp_nar .char v = v)
    (k : mvKK p l e R s m args below meth c nL D cI cC ad QW (pc + n) L st (hset h q j.toNatClampNeg v)) : mvKK p l e R s m args below meth c nL D cI cC ad QW pc L (.inl v :: .inl j :: .inr q :: st) h := by
  obtain ⟨hx, hb, hml, hown, hts, hlk, hK, hAd, hZ, hr, hN⟩ := C
  subst hn
  intro H locs ls a1 a2 a3
  refine va_cast hx hb hK a2.1 (mvW_D hAd) a3 q 1 (by rw [mvW_get hq, mvCe_chr ha]) rfl hj hd (fun H1 locs1 h1 _ h2 => ?_)
  rw [hv, mvW_set (h' := hset h q j.toNatClampNeg v) (by rw [mvCe_chr ha, hset_same]) (fun z hz => hset_other hz)] at h1
  exact k H1 locs1 ls a1 ⟨h1, fun z hz => by rw [hset_other (show mvNC ≠ q by omega)]; exact a2.2 z hz⟩ h2
theorem ms_alen (C : mvCx p s m args meth c own cc nL ret D cI cC ad) {n q w b : Nat} (hd : decode cc pc = .ok (.arraylength, n)) (hn : n = 1) (hq : q < mvNC) (ha : mvArr q = some (w, b)) (hb2 : b < 2)
    (k : mvKK p l e R s m args below meth c nL D cI cC ad QW (pc + n) L (.inl (nI w) :: st) h) : mvKK p l e R s m args below meth c nL D cI cC ad QW pc L (.inr q :: st) h := by
  obtain ⟨hx, hb, hml, hown, hts, hlk, hK, hAd, hZ, hr, hN⟩ := C
  subst hn
  intro H locs ls a1 a2 a3
  match b, hb2, ha with
  | 0, _, ha => exact va_alen (x := (w, .inl (h q))) hx hb hK a2.1 q 0 (by rw [mvW_get hq, mvCe_int ha]) rfl rfl hd (k H locs ls a1 a2 a3)
  | 1, _, ha => exact va_alen (x := (w, .inl (h q))) hx hb hK a2.1 q 1 (by rw [mvW_get hq, mvCe_chr ha]) rfl rfl hd (k H locs ls a1 a2 a3)
theorem ms_copy (C : mvCx p s m args meth c own cc nL ret D cI cC ad) {n i q0 q1 n0 n1 : Nat} {sp dp z : Int32} (hd : decode cc pc = .ok (.invokestatic i, n)) (hn : n = 3) (hl : Cond.methodLink own i arraycopyName ∈ mvWS) (hnat : Cond.native arraycopyName ∈ mvWS) (hsta : Cond.static arraycopyName ∈ mvWS) (hini : Cond.initialized "java/lang/System" ∈ mvWS) (hq0 : q0 < mvNC) (hq1 : q1 < mvNC) (ha0 : mvArr q0 = some (n0, 0)) (ha1 : mvArr q1 = some (n1, 0))
    (h1 : ¬ sp < 0) (h2 : ¬ dp < 0) (h3 : ¬ z < 0) (h4 : sp.toNatClampNeg + z.toNatClampNeg ≤ n0) (h5 : dp.toNatClampNeg + z.toNatClampNeg ≤ n1) (hR : 1 ≤ R.frames ∧ 200 ≤ R.locals) (hst : st.length ≤ 8)
    (k : mvKK p l e R s m args below meth c nL D cI cC ad QW (pc + n) L st (hcpy h q0 sp.toNatClampNeg q1 dp.toNatClampNeg z.toNatClampNeg)) : mvKK p l e R s m args below meth c nL D cI cC ad QW pc L (.inl z :: .inl dp :: .inr q1 :: .inl sp :: .inr q0 :: st) h := by
  obtain ⟨hx, hb, hml, hown, hts, hlk, hK, hAd, hZ, hr, hN⟩ := C
  subst hn
  intro H locs ls a1 a2 a3
  have hcat : ((st.map (mvtv ad)).map fun v => v.category).sum = st.length := by
    clear hst k
    induction st with
    | nil => rfl
    | cons v st ih => simp only [List.map_cons, List.sum_cons, mvtv_cat, ih, List.length_cons]; omega
  refine va_copyi hx hb (hml.trans a1.1.symm) hown (hts _ hl) (hts _ hnat) (hts _ hsta) (hts _ hini) hK a2.1 (mvW_D hAd) a3 q0 q1 0 0 (by rw [mvW_get hq0, mvCe_int ha0]) (by rw [mvW_get hq1, mvCe_int ha1]) rfl rfl rfl h1 h2 h3 h4 h5 (fun _ _ => rfl) hR.1 ?_ hd (fun H1 locs1 g1 _ g2 => ?_)
  · rw [hcat]
    have e1 : nativeFrameWords "java/lang/System" "arraycopy" 5 = 7 := by decide +kernel
    rw [e1]
    omega
  · rw [mvW_set (h' := hcpy h q0 sp.toNatClampNeg q1 dp.toNatClampNeg z.toNatClampNeg) (by rw [mvCe_int ha1]; simp [hcpy]) (fun z hz => by simp [hcpy, hz])] at g1
    exact k H1 locs1 ls a1 ⟨g1, fun z hz => by rw [show hcpy h q0 sp.toNatClampNeg q1 dp.toNatClampNeg _ mvNC = h mvNC by simp only [hcpy]; rw [if_neg (by omega)]]; exact a2.2 z hz⟩ g2
end MVF

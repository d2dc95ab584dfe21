/-! THE SMALL MACHINE'S STEPS ARE THE MACHINE'S: a row an instruction. -/
def mvQc (D : va_G) (cI cC : ClassId) (ad : Nat → Nat) (Q : Option mvV → mvH → Prop) : Array Value → State → Outcome → State → Prop := fun _ st oc t => (∃ (r : Option mvV) (h' : mvH), oc = .returned (r.map (mvtv ad)) ∧ Q r h' ∧ mvWd D cI cC ad h' t.heap) ∧ va_F (mvA ad) st t
def mvCx (p : Program) (s : State) (m : MethodId) (args : Array Value) (meth : Method) (c : Code) (own : String) (cc : ByteArray) (nL : Nat) (ret : Option FieldType) (D : va_G) (cI cC : ClassId) (ad : Nat → Nat) : Prop :=
  p.tables.exec = Jvm.exec ∧ c.code = cc ∧ c.maxLocals = nL ∧ s.vm.findClass own = some m.cls ∧ (∀ w ∈ mvWS, w.before args s = true) ∧ meth.locks = false ∧ va_K D vwCl (mvTy cI cC) s ∧ mvAd ad ∧ mvZ ad s ∧ meth.sig.returnType = ret ∧ ∀ w ∈ mvNW, va_Nw w s
section MVS
variable {p : Program} {l : Launch} {e : Env} {R : Room} {s : State} {m : MethodId} {args : Array Value} {below : List Frame} {meth : Method} {c : Code} {own : String} {cc : ByteArray} {nL : Nat} {ret : Option FieldType} {D : va_G} {cI cC : ClassId} {ad : Nat → Nat} {QW : State → Prop} {pc : Nat} {L : mvL} {st : List mvV} {h : mvH}
def mvKK (p : Program) (l : Launch) (e : Env) (R : Room) (s : State) (m : MethodId) (args : Array Value) (below : List Frame) (meth : Method) (c : Code) (nL : Nat) (D : va_G) (cI cC : ClassId) (ad : Nat → Nat) (QW : State → Prop) (pc : Nat) (L : mvL) (st : List mvV) (h : mvH) : Prop :=
  ∀ (H : Heap) (locs : List Loc) (ls : Array Slot), mvLs ad nL L ls → mvWd D cI cC ad h H → va_S (mvA ad) s.heap H locs → W p l e R s m args below meth c H locs 0 0 QW (F0 m pc ls (st.map (mvtv ad)))
theorem ms_const (C : mvCx p s m args meth c own cc nL ret D cI cC ad) {x : Int32} {i : Instr} {n : Nat} (hd : decode cc pc = .ok (i, n)) (hi : (∃ k : Int, i = .iconst k ∧ n = 1 ∧ Int32.ofInt k = x) ∨ (∃ k : Int, i = .bipush k ∧ n = 2 ∧ (Int8.ofInt k).toInt32 = x) ∨ (∃ k : Int, i = .sipush k ∧ n = 3 ∧ (Int16.ofInt k).toInt32 = x) ∨ (∃ k : Nat, i = .ldc k ∧ n = 2 ∧ Cond.constant own k x ∈ mvWS) ∨ (∃ k : Nat, i = .ldc_w k ∧ n = 3 ∧ Cond.constant own k x ∈ mvWS))
    (k : mvKK p l e R s m args below meth c nL D cI cC ad QW (pc + n) L (.inl x :: st) h) : mvKK p l e R s m args below meth c nL D cI cC ad QW pc L st h := by
  obtain ⟨hx, hb, hml, hown, hts, -⟩ := C
  intro H locs ls a1 a2 a3
  have kk := k H locs ls a1 a2 a3
  rcases hi with ⟨z, rfl, rfl, hz⟩ | ⟨z, rfl, rfl, hz⟩ | ⟨z, rfl, rfl, hz⟩ | ⟨z, rfl, rfl, hz⟩ | ⟨z, rfl, rfl, hz⟩
  · exact lv_iconst hx hb hd hz kk
  · exact lv_bipush hx hb hd hz kk
  · exact lv_sipush hx hb hd hz kk
  · exact lv_ldc hx hb hown (hts _ hz) hd kk
  · exact lv_ldcw hx hb hown (hts _ hz) hd kk
theorem ms_iload (C : mvCx p s m args meth c own cc nL ret D cI cC ad) {x : Int32} {i : Instr} {n a : Nat} (hd : decode cc pc = .ok (i, n)) (hi : (i = .iload a ∧ n = 2) ∨ (∃ z : Fin 4, i = .iload_n z ∧ n = 1 ∧ (z : Nat) = a)) (hl : mvget L a = some (some (.inl x)))
    (k : mvKK p l e R s m args below meth c nL D cI cC ad QW (pc + n) L (.inl x :: st) h) : mvKK p l e R s m args below meth c nL D cI cC ad QW pc L st h := by
  obtain ⟨hx, hb, hml, hown, hts, -⟩ := C
  intro H locs ls a1 a2 a3
  have kk := k H locs ls a1 a2 a3
  have hg := a1.2.2 a _ hl
  rcases hi with ⟨rfl, rfl⟩ | ⟨z, rfl, rfl, hz⟩
  · exact lv_iload hx hb hd hg kk
  · exact lv_iload_n hx hb hd hz hg kk
theorem ms_aload (C : mvCx p s m args meth c own cc nL ret D cI cC ad) {x : Nat} {n a : Nat} {z : Fin 4} (hd : decode cc pc = .ok (.aload_n z, n)) (hn : n = 1) (hz : (z : Nat) = a) (hl : mvget L a = some (some (.inr x)))
    (k : mvKK p l e R s m args below meth c nL D cI cC ad QW (pc + n) L (.inr x :: st) h) : mvKK p l e R s m args below meth c nL D cI cC ad QW pc L st h := by
  obtain ⟨hx, hb, hml, hown, hts, -⟩ := C
  subst hn
  intro H locs ls a1 a2 a3
  exact lv_aload_n hx hb hd hz (a1.2.2 a _ hl) (k H locs ls a1 a2 a3)
theorem ms_istore (C : mvCx p s m args meth c own cc nL ret D cI cC ad) {x : Int32} {i : Instr} {n a : Nat} (hd : decode cc pc = .ok (i, n)) (hi : (i = .istore a ∧ n = 2) ∨ (∃ z : Fin 4, i = .istore_n z ∧ n = 1 ∧ (z : Nat) = a)) (ha : a < nL)
    (hs : mvset L a (some (.inl x)) (fun L' => mvKK p l e R s m args below meth c nL D cI cC ad QW (pc + n) L' st h)) : mvKK p l e R s m args below meth c nL D cI cC ad QW pc L (.inl x :: st) h := by
  obtain ⟨hx, hb, hml, hown, hts, -⟩ := C
  obtain ⟨L', k, -, -, hL⟩ := mvset_spec _ _ _ _ hs
  intro H locs ls a1 a2 a3
  obtain ⟨ls', es, hl'⟩ := mvLs_store a1 ha hL
  have kk := k H locs ls' hl' a2 a3
  intro T hT X
  obtain ⟨t, a, b⟩ := kk T hT X
  refine ⟨t, ?_, b⟩
  rcases hi with ⟨rfl, rfl⟩ | ⟨z, rfl, rfl, hz⟩
  · have es : storeLocals ls _ (Value.int x) = some ls' := es
    jvm_step X.here [X.here.top, ↓top_set X.here.top, hx, hb, hd, es, mvtv]
    exact a
  · subst hz
    have es : storeLocals ls _ (Value.int x) = some ls' := es
    jvm_step X.here [X.here.top, ↓top_set X.here.top, hx, hb, hd, es, mvtv]
    exact a
theorem ms_iinc (C : mvCx p s m args meth c own cc nL ret D cI cC ad) {x v : Int32} {z : Int} {n a : Nat} (hd : decode cc pc = .ok (.iinc a z, n)) (hn : n = 3) (hv : Int32.ofInt z = v) (ha : a < nL) (hg : mvget L a = some (some (.inl x)))
    (hs : mvset L a (some (.inl (x + v))) (fun L' => mvKK p l e R s m args below meth c nL D cI cC ad QW (pc + n) L' st h)) : mvKK p l e R s m args below meth c nL D cI cC ad QW pc L st h := by
  obtain ⟨hx, hb, hml, hown, hts, -⟩ := C
  obtain ⟨L', k, -, -, hL⟩ := mvset_spec _ _ _ _ hs
  subst hn
  intro H locs ls a1 a2 a3
  have hgl := a1.2.2 a _ hg
  obtain ⟨ls2, es, hl'⟩ := mvLs_store a1 ha hL
  have kk := k H locs ls2 hl' a2 a3
  subst hv
  intro T hT X
  obtain ⟨t, a', b⟩ := kk T hT X
  refine ⟨t, ?_, b⟩
  have es : storeLocals ls a (Value.int (x + Int32.ofInt z)) = some ls2 := es
  have hgl : ls[a]? = some (Slot.val (Value.int x)) := hgl
  jvm_step X.here [X.here.top, ↓top_set X.here.top, hx, hb, hd, hgl, es]
  exact a'
/-- two numbers in, one out -/
theorem ms_bin (C : mvCx p s m args meth c own cc nL ret D cI cC ad) {x y v : Int32} {i : Instr} {n : Nat} (hd : decode cc pc = .ok (i, n)) (hn : n = 1) (hi : (i = .iadd ∧ x + y = v) ∨ (i = .isub ∧ x - y = v) ∨ (i = .imul ∧ x * y = v) ∨ (i = .idiv ∧ ¬ y = 0 ∧ x / y = v) ∨ (i = .irem ∧ ¬ y = 0 ∧ x - x / y * y = v) ∨ (i = .iand ∧ x &&& y = v) ∨ (i = .ior ∧ x ||| y = v) ∨ (i = .ixor ∧ x ^^^ y = v) ∨ (i = .ishl ∧ x <<< (y &&& 31) = v) ∨ (i = .ishr ∧ x >>> (y &&& 31) = v) ∨ (i = .iushr ∧ mvsh x y = v))
    (k : mvKK p l e R s m args below meth c nL D cI cC ad QW (pc + n) L (.inl v :: st) h) : mvKK p l e R s m args below meth c nL D cI cC ad QW pc L (.inl y :: .inl x :: st) h := by
  obtain ⟨hx, hb, hml, hown, hts, -⟩ := C
  subst hn
  intro H locs ls a1 a2 a3
  have kk := k H locs ls a1 a2 a3
  rcases hi with ⟨rfl, rfl⟩ | ⟨rfl, rfl⟩ | ⟨rfl, rfl⟩ | ⟨rfl, h0, rfl⟩ | ⟨rfl, h0, rfl⟩ | ⟨rfl, rfl⟩ | ⟨rfl, rfl⟩ | ⟨rfl, rfl⟩ | ⟨rfl, rfl⟩ | ⟨rfl, rfl⟩ | ⟨rfl, rfl⟩
  · exact lv_iadd hx hb hd kk
  · exact lv_isub hx hb hd kk
  · exact lv_imul hx hb hd kk
  · exact lv_idiv hx hb hd h0 kk
  · exact lv_irem hx hb hd h0 kk
  · exact lv_iand hx hb hd kk
  · exact lv_ior hx hb hd kk
  · exact lv_ixor hx hb hd kk
  · exact lv_ishl hx hb hd kk
  · exact lv_ishr hx hb hd kk
  · exact lv_iushr hx hb hd rfl kk
theorem ms_dup (C : mvCx p s m args meth c own cc nL ret D cI cC ad) {v : mvV} {n : Nat} (hd : decode cc pc = .ok (.dup, n)) (hn : n = 1)
    (k : mvKK p l e R s m args below meth c nL D cI cC ad QW (pc + n) L (v :: v :: st) h) : mvKK p l e R s m args below meth c nL D cI cC ad QW pc L (v :: st) h := by
  obtain ⟨hx, hb, hml, hown, hts, -⟩ := C
  subst hn
  intro H locs ls a1 a2 a3
  exact lv_dup hx hb hd (mvtv_cat ad v) (k H locs ls a1 a2 a3)
theorem ms_dup2 (C : mvCx p s m args meth c own cc nL ret D cI cC ad) {v w : mvV} {n : Nat} (hd : decode cc pc = .ok (.dup2, n)) (hn : n = 1)
    (k : mvKK p l e R s m args below meth c nL D cI cC ad QW (pc + n) L (v :: w :: v :: w :: st) h) : mvKK p l e R s m args below meth c nL D cI cC ad QW pc L (v :: w :: st) h := by
  obtain ⟨hx, hb, hml, hown, hts, -⟩ := C
  subst hn
  intro H locs ls a1 a2 a3
  exact lv_dup2_11 hx hb hd (mvtv_cat ad v) (mvtv_cat ad w) (k H locs ls a1 a2 a3)
theorem ms_pop (C : mvCx p s m args meth c own cc nL ret D cI cC ad) {v : mvV} {n : Nat} (hd : decode cc pc = .ok (.pop, n)) (hn : n = 1)
    (k : mvKK p l e R s m args below meth c nL D cI cC ad QW (pc + n) L st h) : mvKK p l e R s m args below meth c nL D cI cC ad QW pc L (v :: st) h := by
  obtain ⟨hx, hb, hml, hown, hts, -⟩ := C
  subst hn
  intro H locs ls a1 a2 a3
  exact lv_pop hx hb hd (mvtv_cat ad v) (k H locs ls a1 a2 a3)
theorem ms_goto (C : mvCx p s m args meth c own cc nL ret D cI cC ad) {n a : Nat} {off : Int} (hd : decode cc pc = .ok (.goto off, n)) (hn : n = 3) (ht : (pc : Int) + off = (a : Int))
    (k : mvKK p l e R s m args below meth c nL D cI cC ad QW a L st h) : mvKK p l e R s m args below meth c nL D cI cC ad QW pc L st h := by
  obtain ⟨hx, hb, hml, hown, hts, -⟩ := C
  subst hn
  intro H locs ls a1 a2 a3
  exact lv_goto hx hb hd ht (k H locs ls a1 a2 a3)
theorem ms_icmp (C : mvCx p s m args meth c own cc nL ret D cI cC ad) {cd : ClassFile.Cond} {x y : Int32} {n a : Nat} {off : Int} (hd : decode cc pc = .ok (.if_icmp cd off, n)) (hn : n = 3) (ht : (pc : Int) + off = (a : Int)) {P : Prop} (hP : match cd with
      | .eq => P ↔ x = y
      | .ne => P ↔ ¬ x = y
      | .lt => P ↔ x < y
      | .ge => P ↔ y ≤ x
      | .gt => P ↔ y < x
      | .le => P ↔ x ≤ y)
    (kt : P → mvKK p l e R s m args below meth c nL D cI cC ad QW a L st h) (kf : ¬ P → mvKK p l e R s m args below meth c nL D cI cC ad QW (pc + n) L st h) : mvKK p l e R s m args below meth c nL D cI cC ad QW pc L (.inl y :: .inl x :: st) h := by
  obtain ⟨hx, hb, hml, hown, hts, -⟩ := C
  subst hn
  intro H locs ls a1 a2 a3
  cases cd
  · exact lv_icmp_eq hx hb hd ht (fun q => kt (hP.mpr q) H locs ls a1 a2 a3) (fun q => kf (fun z => q (hP.mp z)) H locs ls a1 a2 a3)
  · exact lv_icmp_ne hx hb hd ht (fun q => kt (hP.mpr q) H locs ls a1 a2 a3) (fun q => kf (fun z => hP.mp z q) H locs ls a1 a2 a3)
  · exact lv_icmp_lt hx hb hd ht (fun q => kt (hP.mpr q) H locs ls a1 a2 a3) (fun q => kf (fun z => q (hP.mp z)) H locs ls a1 a2 a3)
  · exact lv_icmp_ge hx hb hd ht (fun q => kt (hP.mpr q) H locs ls a1 a2 a3) (fun q => kf (fun z => q (hP.mp z)) H locs ls a1 a2 a3)
  · exact lv_icmp_gt hx hb hd ht (fun q => kt (hP.mpr q) H locs ls a1 a2 a3) (fun q => kf (fun z => q (hP.mp z)) H locs ls a1 a2 a3)
  · exact lv_icmp_le hx hb hd ht (fun q => kt (hP.mpr q) H locs ls a1 a2 a3) (fun q => kf (fun z => q (hP.mp z)) H locs ls a1 a2 a3)
theorem ms_if (C : mvCx p s m args meth c own cc nL ret D cI cC ad) {cd : ClassFile.Cond} {x : Int32} {n a : Nat} {off : Int} (hd : decode cc pc = .ok (.ifCond cd off, n)) (hn : n = 3) (ht : (pc : Int) + off = (a : Int)) {P : Prop} (hP : match cd with
      | .eq => P ↔ x = 0
      | .ne => P ↔ ¬ x = 0
      | .lt => P ↔ x < 0
      | .ge => P ↔ 0 ≤ x
      | .gt => P ↔ 0 < x
      | .le => P ↔ x ≤ 0)
    (kt : P → mvKK p l e R s m args below meth c nL D cI cC ad QW a L st h) (kf : ¬ P → mvKK p l e R s m args below meth c nL D cI cC ad QW (pc + n) L st h) : mvKK p l e R s m args below meth c nL D cI cC ad QW pc L (.inl x :: st) h := by
  obtain ⟨hx, hb, hml, hown, hts, -⟩ := C
  subst hn
  intro H locs ls a1 a2 a3
  cases cd
  · exact lv_if_eq hx hb hd ht (fun q => kt (hP.mpr q) H locs ls a1 a2 a3) (fun q => kf (fun z => q (hP.mp z)) H locs ls a1 a2 a3)
  · exact lv_if_ne hx hb hd ht (fun q => kt (hP.mpr q) H locs ls a1 a2 a3) (fun q => kf (fun z => hP.mp z q) H locs ls a1 a2 a3)
  · exact lv_if_lt hx hb hd ht (fun q => kt (hP.mpr q) H locs ls a1 a2 a3) (fun q => kf (fun z => q (hP.mp z)) H locs ls a1 a2 a3)
  · exact lv_if_ge hx hb hd ht (fun q => kt (hP.mpr q) H locs ls a1 a2 a3) (fun q => kf (fun z => q (hP.mp z)) H locs ls a1 a2 a3)
  · exact lv_if_gt hx hb hd ht (fun q => kt (hP.mpr q) H locs ls a1 a2 a3) (fun q => kf (fun z => q (hP.mp z)) H locs ls a1 a2 a3)
  · exact lv_if_le hx hb hd ht (fun q => kt (hP.mpr q) H locs ls a1 a2 a3) (fun q => kf (fun z => q (hP.mp z)) H locs ls a1 a2 a3)
end MVS
/-! switches -/
def mvswT (d : Nat) (x : Int32) : List (Int32 × Nat) → Nat
  | [] => d
  | (v, t) :: r => if x = v then t else mvswT d x r
theorem mvsw_T {K : Nat → Prop} {d : Nat} {x : Int32} : ∀ {sw : List (Int32 × Nat)}, mvsw K d x sw → K (mvswT d x sw) := by
  intro sw
  induction sw with
  | nil => intro h; exact h
  | cons q r ih =>
    intro h
    obtain ⟨v, t⟩ := q
    by_cases hx : x = v
    · simp only [mvswT, if_pos hx]; exact h.1 hx
    · simp only [mvswT, if_neg hx]; exact ih (h.2 hx)
/-- a table's rows against its offsets, from key lo on -/
def mvtab (pc : Nat) : Int → List Int → List (Int32 × Nat) → Bool
  | _, [], [] => true
  | lo, o :: os, (v, t) :: r => decide (v.toInt = lo) && decide ((pc : Int) + o = (t : Int)) && mvtab pc (lo + 1) os r
  | _, _, _ => false
theorem mvtab_spec {pc d : Nat} {x : Int32} : ∀ (os : List Int) (lo : Int) (sw : List (Int32 × Nat)), mvtab pc lo os sw = true → ((x.toInt < lo ∨ lo + os.length ≤ x.toInt) → mvswT d x sw = d) ∧ ((¬ x.toInt < lo ∧ x.toInt < lo + os.length) → ∃ o, os[(x.toInt - lo).toNat]? = some o ∧ (pc : Int) + o = (mvswT d x sw : Nat)) := by
  intro os
  induction os with
  | nil =>
    intro lo sw h
    match sw with
    | [] => exact ⟨fun _ => rfl, fun q => absurd q.2 (by simp; omega)⟩
    | _ :: _ => simp [mvtab] at h
  | cons o os ih =>
    intro lo sw h
    match sw with
    | [] => simp [mvtab] at h
    | (v, t) :: r =>
      simp only [mvtab, Bool.and_eq_true, decide_eq_true_eq] at h
      obtain ⟨⟨h1, h2⟩, h3⟩ := h
      obtain ⟨i1, i2⟩ := ih (lo + 1) r h3
      refine ⟨fun q => ?_, fun q => ?_⟩
      · have hne : ¬ x = v := by
          intro e
          rw [e, h1] at q
          simp at q
          omega
        simp only [mvswT, if_neg hne]
        refine i1 ?_
        simp at q
        rcases q with q | q
        · exact Or.inl (by omega)
        · exact Or.inr (by omega)
      · by_cases hx : x = v
        · refine ⟨o, ?_, ?_⟩
          · rw [hx, h1]; simp
          · simp only [mvswT, if_pos hx]; exact h2
        · have hne : x.toInt ≠ lo := fun e => hx (Int32.toInt_inj.mp (by rw [e, h1]))
          simp only [mvswT, if_neg hx]
          obtain ⟨o', g1, g2⟩ := i2 ⟨by omega, by have := q.2; simp at this; omega⟩
          refine ⟨o', ?_, g2⟩
          have e1 : (x.toInt - lo).toNat = (x.toInt - (lo + 1)).toNat + 1 := by omega
          rw [e1]
          simpa using g1
def mvlks (pc : Nat) : List (Int × Int) → List (Int32 × Nat) → Bool
  | [], [] => true
  | (k, o) :: os, (v, t) :: r => decide (v.toInt = k) && decide ((pc : Int) + o = (t : Int)) && mvlks pc os r
  | _, _ => false
theorem mvlks_spec {pc d : Nat} {x : Int32} {df : Int} (hd : (pc : Int) + df = (d : Int)) : ∀ (os : List (Int × Int)) (sw : List (Int32 × Nat)), mvlks pc os sw = true → (pc : Int) + Op.lookupswitch.offset os df x.toInt = (mvswT d x sw : Nat) := by
  intro os
  induction os with
  | nil =>
    intro sw h
    match sw with
    | [] => exact hd
    | _ :: _ => simp [mvlks] at h
  | cons q os ih =>
    intro sw h
    obtain ⟨k, o⟩ := q
    match sw with
    | [] => simp [mvlks] at h
    | (v, t) :: r =>
      simp only [mvlks, Bool.and_eq_true, decide_eq_true_eq] at h
      obtain ⟨⟨h1, h2⟩, h3⟩ := h
      rw [Op.lookupswitch.offset_cons]
      by_cases hx : x = v
      · rw [if_pos (by rw [hx, h1])]
        simp only [mvswT, if_pos hx]
        exact h2
      · rw [if_neg (by rw [← h1]; intro e; exact hx (Int32.toInt_inj.mp (by first | exact e | exact e.symm | simpa using e | simpa using e.symm)))]
        simp only [mvswT, if_neg hx]
        exact ih r h3
section MVT
variable {p : Program} {l : Launch} {e : Env} {R : Room} {s : State} {m : MethodId} {args : Array Value} {below : List Frame} {meth : Method} {c : Code} {own : String} {cc : ByteArray} {nL : Nat} {ret : Option FieldType} {D : va_G} {cI cC : ClassId} {ad : Nat → Nat} {QW : State → Prop} {pc : Nat} {L : mvL} {st : List mvV} {h : mvH}
theorem ms_tsw (C : mvCx p s m args meth c own cc nL ret D cI cC ad) {x : Int32} {n a : Nat} {df lo hi : Int} {offs : Array Int} {sw : List (Int32 × Nat)} (hd : decode cc pc = .ok (.tableswitch df lo hi offs, n)) (hdf : (pc : Int) + df = (a : Int)) (hlen : lo + offs.toList.length = hi + 1) (ht : mvtab pc lo offs.toList sw = true)
    (k : mvsw (fun t => mvKK p l e R s m args below meth c nL D cI cC ad QW t L st h) a x sw) : mvKK p l e R s m args below meth c nL D cI cC ad QW pc L (.inl x :: st) h := by
  obtain ⟨hx, hb, hml, hown, hts, -⟩ := C
  have kT := mvsw_T k
  obtain ⟨g1, g2⟩ := mvtab_spec (d := a) (x := x) _ _ _ ht
  intro H locs ls a1 a2 a3
  by_cases ho : x.toInt < lo ∨ hi < x.toInt
  · have e1 := g1 (by omega)
    rw [e1] at kT
    exact lv_tableOut hx hb hd ho hdf (kT H locs ls a1 a2 a3)
  · have h1 : ¬ x.toInt < lo := fun q => ho (Or.inl q)
    have h2 : ¬ hi < x.toInt := fun q => ho (Or.inr q)
    obtain ⟨o, e1, e2⟩ := g2 ⟨h1, by omega⟩
    exact lv_tableIn hx hb hd h1 h2 (by rw [← e1]; simp) e2 (kT H locs ls a1 a2 a3)
theorem ms_lsw (C : mvCx p s m args meth c own cc nL ret D cI cC ad) {x : Int32} {n a : Nat} {df : Int} {ps : Array (Int × Int)} {sw : List (Int32 × Nat)} (hd : decode cc pc = .ok (.lookupswitch df ps, n)) (hdf : (pc : Int) + df = (a : Int)) (hs : (ps.toList.zip (ps.toList.drop 1)).all (fun (a, next) => a.1 < next.1) = true) (ht : mvlks pc ps.toList sw = true)
    (k : mvsw (fun t => mvKK p l e R s m args below meth c nL D cI cC ad QW t L st h) a x sw) : mvKK p l e R s m args below meth c nL D cI cC ad QW pc L (.inl x :: st) h := by
  obtain ⟨hx, hb, hml, hown, hts, -⟩ := C
  have kT := mvsw_T k
  intro H locs ls a1 a2 a3
  exact lv_lookup hx hb hd hs rfl (mvlks_spec hdf _ _ ht) (kT H locs ls a1 a2 a3)
end MVT

/-! THE CLAIM OUT OF ONE WALK OF THE LAW'S BODY. Your part is whole_start (and what it stands on); all else here is the same for every law, but numbers. -/
def R_law : String := "ReactWiresLaw"
def lw_P (b : Addr) (xs : List Int32) (args : Array Value) (s : State) : Prop := args = #[.ref b] ∧ s.IntsAt b xs ∧ xs.length ≤ 128 ∧ (Jvm.Cond.and given_1 narrow_1).before args s = true
def lw_Q (_ : Array Value) (s : State) (o : Outcome) (t : State) : Prop := o = .returned (some (.int 1)) ∧ Framed s o t [] 600000 7302250
def lw_Z (below : List Frame) (a : Array Value) (s : State) : State → Prop := fun t => ∃ o, t.status = .running ∧ Ended t below o ∧ lw_Q a s o t
/-- the law's own end, with 1 on the stack, nothing written that was there before, its room as the claim has it -/
theorem lw_ret {p : Program} {l : Launch} {e : Env} {s : State} {m : MethodId} {below : List Frame} {meth : Method} {c : Code} {b : Nat} (hx : p.tables.exec = Jvm.exec) (hb : c.code = code) (hr : meth.sig.returnType = ret) (hlocks : meth.locks = false) {pc : Nat} {H : Heap} {ls : Array Slot} (hdg : decode code pc = .ok (.ireturn, 1)) : W p l e room_1 s m #[Value.ref b] below meth c H [] 600000 7302250 (lw_Z below #[Value.ref b] s) (F0 m pc ls [.int 1]) := by
  intro T hT X
  obtain ⟨fs, hret, hrun, hended, hW, hframe⟩ := X.leave (v := some (.int 1)) (hlocks := hlocks) (fun h => by rw [hr] at h; cases h)
  have hmeth' : T.vm.method? m = some meth := X.method'
  refine ⟨T.setFrames fs, ?_, .returned (some (.int 1)), hrun, hended, rfl, ⟨_, rfl⟩, hW, hframe⟩
  jvm_step X.here [X.here.top, hx, hb, hdg, hmeth', hr, ret, narrow_b1]
  (try refine ⟨rfl, ?_⟩); (try refine ⟨rfl, ?_⟩)
  first | (intro acts; rw [hret _ acts rfl rfl rfl]) | rw [hret _ _ rfl rfl rfl]
  exact Steps.refl _
/-- what holds at the law's entry: the machine, the code, the tables' words (any of lw_tbl by 'hts w (by decide +kernel)'), the script of L ints xs at the cell b, what the Statement gives of the start (any of its parts by flat_of_before) -/
def lw_At (p : Program) (s : State) (m : MethodId) (meth : Method) (c : Code) (b L : Nat) (xs : Nat → Int32) : Prop :=
  p.tables.exec = Jvm.exec ∧ c.code = code ∧ meth.sig.returnType = ret ∧ c.maxLocals = 4 ∧ s.vm.findClass R_law = some m.cls ∧ (∀ w ∈ lw_tbl, w.before #[Value.ref b] s = true) ∧ va_X b L xs s s.heap ∧ b < s.heap.size ∧ meth.locks = false ∧ (Jvm.Cond.and given_1 narrow_1).before #[Value.ref b] s = true
section LW1
variable {p : Program} {l : Launch} {e : Env} {R : Room} {s : State} {m : MethodId} {args : Array Value} {below : List Frame} {meth : Method} {c : Code} {H : Heap} {locs : List Loc} {cells slots : Nat} {QW : State → Prop} {pc b : Nat} {ls : Array Slot} {rest : List Value} {D : va_G} {cI cC : ClassId} {ad : Nat → Nat} {h : mvH}
theorem lw_run {A : Nat → Prop} {g : JFrame} {Qc : Option mvV → mvH → Prop} {a : Array Value} (hS : va_S A s.heap H locs) (hAA : ∀ q, mvA ad q → A q) (hr : va_Run p l e R s m args below meth c H locs cells slots 0 0 g rest (mvQc D cI cC ad Qc a) (mvA ad))
    (kk : ∀ (v : Option mvV) (h' : mvH) (H' : Heap) (locs' : List Loc), Qc v h' → mvWd D cI cC ad h' H' → va_S A s.heap H' locs' → W p l e R s m args below meth c H' locs' cells slots QW { g with pc := g.pc + 3, stack := (v.map (mvtv ad)).toList ++ rest }) : W p l e R s m args below meth c H locs cells slots QW g := by
  intro T hT X
  obtain ⟨v, st₀, t, T', Lc, h0, X', hL, e1, e2, ⟨⟨rv, h', hv, hq, hwd⟩, hz, hk⟩, stp⟩ := hr T hT X
  have hv : v = rv.map (mvtv ad) := Outcome.returned.inj hv
  rw [h0] at hz hk
  have hS' : va_S A s.heap T'.heap (locs ++ Lc) := ⟨Nat.le_trans hS.1 (by rw [e1]; exact hz), fun q h1 h2 => by rw [e1, hk q (Nat.lt_of_lt_of_le h1 hS.1) (fun z => h2 (hAA q z))]; exact hS.2.1 q h1 h2, fun q hq => by
      rcases List.mem_append.mp hq with z | z
      · exact hS.2.2 q z
      · exact hAA _ (hL q z)⟩
  obtain ⟨t2, b1, b2⟩ := kk rv h' T'.heap (locs ++ Lc) hq (by rw [e1]; exact hwd) hS' T' rfl X'
  refine ⟨t2, stp t2 ?_, b2⟩
  rw [hv]
  exact b1
theorem lw_call (hx : p.tables.exec = Jvm.exec) (hb : c.code = code) (hml : c.maxLocals = 4) (hown : s.vm.findClass RL = some m.cls) (hts : ∀ w ∈ mvWS, w.before #[Value.ref b] s = true) (hK : va_K D vwCl (mvTy cI cC) s) (hAd : mvAd ad) (hge : ∀ q, mvA ad q → s.heap.size ≤ q) (hZ : mvZ ad s) (hN : ∀ w ∈ mvNW, va_Nw w s) (a2 : mvWd D cI cC ad h H) (a3 : va_S (fun q : Nat => s.heap.size ≤ q) s.heap H locs) (hls : ls.size = 4) (hcs : cells ≤ 600000 ∧ slots ≤ 7302250)
    {mid q i n ci : Nat} {tl : List mvV} {y : MethodName} {fs : List Nat} {Q2 : Option mvV → mvH → Prop} (hcal : mvCal mvMT 430 mid (.inr q :: tl) h Q2) (hid : mvYT[mid]? = some (y, n, ci + 1)) (ho : mvObj q = some (ci, fs)) (hl : Cond.methodLink RL i y ∈ mvWS) (hd : decode code pc = .ok (.invokevirtual i, 3)) (hr : (rest.map fun v => v.category).sum ≤ 8)
    (kk : ∀ (v : Option mvV) (h' : mvH) (H' : Heap) (locs' : List Loc), Q2 v h' → mvWd D cI cC ad h' H' → va_S (fun q : Nat => s.heap.size ≤ q) s.heap H' locs' → W p l e room_1 s m #[Value.ref b] below meth c H' locs' cells slots QW (F0 m (pc + 3) ls ((v.map (mvtv ad)).toList ++ rest))) : W p l e room_1 s m #[Value.ref b] below meth c H locs cells slots QW (F0 m pc ls ((tl.map (mvtv ad)).reverse ++ Value.ref (ad q) :: rest)) := by
  obtain ⟨y', bytes, maxL, rt, n', k', e1, hw, hrv, hM⟩ := mv_met mvMT_ok l D cI cC ad hAd 430 mid _ h Q2 hcal
  rw [hid] at e1
  have e2 := Option.some.inj e1
  have ey : y = y' := congrArg (fun z => z.1) e2
  have en : n = n' := congrArg (fun z => z.2.1) e2
  have ek : ci + 1 = k' := congrArg (fun z => z.2.2) e2
  subst ey
  subst en
  subst ek
  obtain ⟨hw1, hw2, ⟨hw3, hw4, T, N, hcl⟩, hw5, hw6, hw7⟩ := hw
  have hn : tl.length = n := hrv.1
  have hq : q < mvNC := Nat.lt_of_lt_of_le (mvObj_ok ho).1 (by decide)
  have he : (mvW ad cI cC h)[q]? = some (ad q, .inr (ci, mvFs ad h q 0 fs)) := by rw [mvW_get hq, mvCe_obj ho]
  have hG : GoodIn mvWS (wsV RL i y.cls y (Cond.code y bytes maxL rt :: mvWS)) := by
    refine mvgood (fun w hw => ?_)
    unfold wsV at hw
    simp only [List.mem_append, List.mem_cons, List.not_mem_nil, or_false] at hw
    rcases hw with (rfl | rfl | rfl | rfl) | (rfl | hw)
    · exact hl
    · exact hw3
    · exact hw4
    · exact hw2
    · exact hw1
    · exact hw
  have hR : (mvRm 430).frames + 1 ≤ room_1.frames ∧ (mvRm 430).locals + 40 ≤ room_1.locals := ⟨Nat.le_of_ble_eq_true rfl, Nat.le_of_ble_eq_true rfl⟩
  refine lw_run a3 hge (va_runV (nL := 4) ⟨hx, hb, hml, hown, hts⟩ hM (cwV n hts hG rfl rfl rfl ⟨rfl, hw5⟩ (mvroom hR hw6)) ⟨mvPc_blind, va_recv hK a2.1 hcl he, fun U hU hW => ?_⟩ rfl (by simp [hn]) hls rfl (lv_room hr) hd ⟨hcs.1, hcs.2⟩) kk
  exact ⟨by simp [mvtv], by rw [hU]; exact a2, va_K.moved hW.alike hK, mvZ_moved hZ (locs := []) ⟨a3.1, fun q h1 _ => a3.2.1 q h1 (Nat.not_le.mpr h1), fun l hl => (by cases hl)⟩ hU hW, mvNW_warm hW hN⟩
theorem and_15 (v : Int32) : ∃ k, k < 16 ∧ v &&& 15 = nI k := by
  have hb : ∀ i, i < 32 → bt (15 : Int32) i = decide (i < 4) := by decide +kernel
  obtain ⟨n, hn, e⟩ := x_nI (x := v &&& 15) (fun i h1 h2 => by rw [bt_and, hb i h2, decide_eq_false (by omega), Bool.and_false])
  refine ⟨n, ?_, e⟩
  refine Nat.lt_pow_two_of_testBit (n := 4) _ (fun i hi => ?_)
  by_cases h : i < 32
  · have h1 : bt (nI n) i = false := by rw [← e, bt_and, hb i h, decide_eq_false (by omega), Bool.and_false]
    rwa [bt_nI h] at h1
  · exact Nat.testBit_lt_two_pow (Nat.lt_of_lt_of_le hn (Nat.pow_le_pow_right (n := 2) (by decide) (show 16 ≤ i by omega)))
theorem lw_more : ∀ L, L < 129 → ∀ i, i < 131 → ¬ nI i > nI L - 2 → i + 2 ≤ L := by decide +kernel
end LW1

/-! calls -/
/-- what a method must have among the words -/
def mvMw (y : MethodName) (bytes : ByteArray) (maxL : Nat) (rt : Option FieldType) (n k : Nat) : Prop :=
  Cond.code y bytes maxL rt ∈ mvWS ∧ Cond.initialized y.cls ∈ mvWS ∧ (match k with
    | 0 => Cond.static y ∈ mvWS
    | ci + 1 => Cond.instanceMethod y ∈ mvWS ∧ Cond.selects y.cls y y ∈ mvWS ∧ ∃ (T : u_T) (N : Nat), vwCl[ci]? = some (y.cls, T, N)) ∧
  (y.cls ≠ "java/lang/invoke/MethodHandle" ∧ y.cls ≠ "java/lang/invoke/VarHandle" ∧ (parseMethodDescriptor y.desc).map (fun d => d.parameters.length) = some n) ∧ maxL ≤ 21 ∧ plainName y.cls = true
section MVCall2
variable {p : Program} {l : Launch} {e : Env} {R : Room} {s : State} {m : MethodId} {args : Array Value} {below : List Frame} {meth : Method} {c : Code} {own : String} {cc : ByteArray} {nL : Nat} {ret : Option FieldType} {D : va_G} {cI cC : ClassId} {ad : Nat → Nat} {QW : State → Prop} {pc d : Nat} {L : mvL} {st r : List mvV} {h : mvH} {y : MethodName} {bytes : ByteArray} {maxL n i : Nat} {rt : Option FieldType} {Q2 : Option mvV → mvH → Prop}
theorem mvgood {ws : List Cond} (h : ∀ w ∈ ws, w ∈ mvWS) : GoodIn mvWS ws := fun w hw => mvWS_good w (h w hw)
theorem mvroom (hR : (mvRm d).frames + 1 ≤ R.frames ∧ (mvRm d).locals + 40 ≤ R.locals) (hm : maxL ≤ 21) : (mvRm d).frames + 1 ≤ R.frames ∧ 8 + (maxL + 11) + (mvRm d).locals ≤ R.locals := ⟨hR.1, by omega⟩
theorem ms_callV (C : mvCx p s m args meth c own cc nL ret D cI cC ad) (hR : (mvRm d).frames + 1 ≤ R.frames ∧ (mvRm d).locals + 40 ≤ R.locals) {q ci : Nat} {fs : List Nat} {tl : List mvV} (hd : decode cc pc = .ok (.invokevirtual i, 3)) (hM : Met l y (Cond.code y bytes maxL rt :: mvWS) (mvRm d) (mvPc D cI cC ad (.inr q :: tl) h) (mvQc D cI cC ad Q2) 0 0 (mvA ad)) (hw : mvMw y bytes maxL rt n (ci + 1)) (hl : Cond.methodLink own i y ∈ mvWS) (ho : mvObj q = some (ci, fs)) (hn : tl.length = n) (hr : r.length ≤ 8)
    (kk : ∀ v h', Q2 v h' → mvKK p l e R s m args below meth c nL D cI cC ad QW (pc + 3) L (mvret v r) h') : mvKK p l e R s m args below meth c nL D cI cC ad QW pc L (tl.reverse ++ .inr q :: r) h := by
  obtain ⟨hx, hb, hml, hown, hts, hlk, hK, hAd, hZ, hret, hN⟩ := id C
  obtain ⟨hw1, hw2, ⟨hw3, hw4, T, N, hcl⟩, hw5, hw6, hw7⟩ := hw
  intro H locs ls a1 a2 a3
  have hq : q < mvNC := Nat.lt_of_lt_of_le (mvObj_ok ho).1 (by decide)
  have he : (mvW ad cI cC h)[q]? = some (ad q, .inr (ci, mvFs ad h q 0 fs)) := by rw [mvW_get hq, mvCe_obj ho]
  have hG : GoodIn mvWS (wsV own i y.cls y (Cond.code y bytes maxL rt :: mvWS)) := by
    refine mvgood (fun w hw => ?_)
    unfold wsV at hw
    simp only [List.mem_append, List.mem_cons, List.not_mem_nil, or_false] at hw
    rcases hw with (rfl | rfl | rfl | rfl) | (rfl | hw)
    · exact hl
    · exact hw3
    · exact hw4
    · exact hw2
    · exact hw1
    · exact hw
  have hst : (tl.reverse ++ .inr q :: r).map (mvtv ad) = (tl.map (mvtv ad)).reverse ++ Value.ref (ad q) :: r.map (mvtv ad) := by simp [mvtv]
  rw [hst]
  refine ms_ret (mc := 0) (ms := 0) (g := F0 m pc ls ((tl.map (mvtv ad)).reverse ++ Value.ref (ad q) :: r.map (mvtv ad))) rfl a3 (va_runV (nL := nL) ⟨hx, hb, hml, hown, hts⟩ hM (cwV n hts hG rfl rfl rfl ⟨rfl, hw5⟩ (mvroom hR hw6)) ⟨mvPc_blind, va_recv hK a2.1 hcl he, fun U hU hW => ?_⟩ rfl (by simp [hn]) a1.1 rfl (lv_room (by rw [mvcat]; exact hr)) hd ⟨by omega, by omega⟩) rfl a1 kk
  exact ⟨by simp [mvtv], by rw [hU]; exact a2, va_K.moved hW.alike hK, mvZ_moved hZ a3 hU hW, mvNW_warm hW hN⟩
theorem ms_callS (C : mvCx p s m args meth c own cc nL ret D cI cC ad) (hR : (mvRm d).frames + 1 ≤ R.frames ∧ (mvRm d).locals + 40 ≤ R.locals) {as : List mvV} (hd : decode cc pc = .ok (.invokestatic i, 3)) (hM : Met l y (Cond.code y bytes maxL rt :: mvWS) (mvRm d) (mvPc D cI cC ad as h) (mvQc D cI cC ad Q2) 0 0 (mvA ad)) (hw : mvMw y bytes maxL rt n 0) (hl : Cond.methodLink own i y ∈ mvWS) (hn : as.length = n) (hr : r.length ≤ 8)
    (kk : ∀ v h', Q2 v h' → mvKK p l e R s m args below meth c nL D cI cC ad QW (pc + 3) L (mvret v r) h') : mvKK p l e R s m args below meth c nL D cI cC ad QW pc L (as.reverse ++ r) h := by
  obtain ⟨hx, hb, hml, hown, hts, hlk, hK, hAd, hZ, hret, hN⟩ := id C
  obtain ⟨hw1, hw2, hw3, hw5, hw6, hw7⟩ := hw
  intro H locs ls a1 a2 a3
  have hG : GoodIn mvWS (va_wsS own i y (Cond.code y bytes maxL rt :: mvWS)) := by
    refine mvgood (fun w hw => ?_)
    unfold va_wsS at hw
    simp only [List.mem_append, List.mem_cons, List.not_mem_nil, or_false] at hw
    rcases hw with (rfl | rfl | rfl) | (rfl | hw)
    · exact hl
    · exact hw3
    · exact hw2
    · exact hw1
    · exact hw
  have hst : (as.reverse ++ r).map (mvtv ad) = (as.map (mvtv ad)).reverse ++ r.map (mvtv ad) := by simp
  rw [hst]
  refine ms_ret (mc := 0) (ms := 0) (g := F0 m pc ls ((as.map (mvtv ad)).reverse ++ r.map (mvtv ad))) rfl a3 (va_runS (nL := nL) ⟨hx, hb, hml, hown, hts⟩ hM (va_cwS n hts hG rfl rfl rfl hw5 (mvroom hR hw6)) ⟨mvPc_blind, fun U hU hW => ?_⟩ rfl (by simp [hn]) a1.1 rfl (lv_room (by rw [mvcat]; exact hr)) hd ⟨by omega, by omega⟩) rfl a1 kk
  exact ⟨rfl, by rw [hU]; exact a2, va_K.moved hW.alike hK, mvZ_moved hZ a3 hU hW, mvNW_warm hW hN⟩
end MVCall2

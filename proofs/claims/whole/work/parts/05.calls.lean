/-! ends, throws, calls -/
theorem zd_weak {tb : Tables} {e : Env} {mid below : List Frame} {a b : State} (h : Steps tb e (mid ++ below) a b) : Steps tb e below a b := by
  obtain ⟨n, hn, hw⟩ := h
  refine ⟨n, hn, fun k hk => ?_⟩
  obtain ⟨above, h1, h2, h3⟩ := hw k hk
  refine ⟨above ++ mid, by rw [h1, List.append_assoc], by simp [h2], fun x hx => ?_⟩
  cases above with
  | nil => exact h2 rfl
  | cons f r =>
    simp at hx
    obtain ⟨e1, e2, -⟩ := hx
    exact h3 x (by rw [e1, e2])
section ZE
variable {l : Launch} {B : zd_B} {y : zd_Y} {pc : Nat}
def oc_iret (ty : FieldType) : zd_S := fun _ _ st h Q => match st with
  | [.int x] => narrow ty (.int x) = .int x ∧ Q (.inl (some (.int x))) h ∧ True
  | _ => False
theorem ok_iret {ty : FieldType} (hr0 : zd_yr y = some ty) (hd : decode (zd_yb y) pc = .ok (.ireturn, 1)) : zd_ok l B y pc (oc_iret ty) := by
  intro K ls st h Q hK q
  unfold oc_iret at q
  split at q
  · rename_i x
    obtain ⟨hn, hq, -⟩ := q
    intro p e R s m args below meth c c0 n0 hX hc H locs arr hR hL hA T hT X
    have hr : meth.sig.returnType = some ty := hX.2.2.2.1.trans hr0
    obtain ⟨fs, hret, hrun, hended, hW, hframe⟩ := X.leave (v := some (.int x)) (fun z => by rw [hr] at z; cases z) hX.2.2.2.2.1
    have hmeth' : T.vm.method? m = some meth := X.method'
    have hexec := hX.1
    have hb := hX.2.1
    refine ⟨T.setFrames fs, ?_, .returned (some (.int x)), .inl (some (.int x)), h, hrun, hended, rfl, hq, (fun z e => by cases e), hc, by show zd_R B h T.heap; rw [hT]; exact hR, hW, locs, hL, hframe⟩
    jvm_step X.here [X.here.top, hexec, hb, hd, hmeth', hr, hn]
    (try refine ⟨rfl, ?_⟩); (try refine ⟨rfl, ?_⟩)
    first | (intro acts; rw [hret _ acts rfl rfl rfl]) | rw [hret _ _ rfl rfl rfl]
    exact Steps.refl _
  · exact q.elim
def oc_lret : zd_S := fun _ _ st h Q => match st with
  | [.long x] => Q (.inl (some (.long x))) h ∧ True
  | _ => False
theorem ok_lret (hr0 : zd_yr y = some .long) (hd : decode (zd_yb y) pc = .ok (.lreturn, 1)) : zd_ok l B y pc oc_lret := by
  intro K ls st h Q hK q
  unfold oc_lret at q
  split at q
  · rename_i x
    obtain ⟨hq, -⟩ := q
    intro p e R s m args below meth c c0 n0 hX hc H locs arr hR hL hA T hT X
    have hr : meth.sig.returnType = some .long := hX.2.2.2.1.trans hr0
    obtain ⟨fs, hret, hrun, hended, hW, hframe⟩ := X.leave (v := some (.long x)) (fun z => by rw [hr] at z; cases z) hX.2.2.2.2.1
    have hmeth' : T.vm.method? m = some meth := X.method'
    have hexec := hX.1
    have hb := hX.2.1
    refine ⟨T.setFrames fs, ?_, .returned (some (.long x)), .inl (some (.long x)), h, hrun, hended, rfl, hq, (fun z e => by cases e), hc, by show zd_R B h T.heap; rw [hT]; exact hR, hW, locs, hL, hframe⟩
    jvm_step X.here [X.here.top, hexec, hb, hd, hmeth', hr, narrow]
    (try refine ⟨rfl, ?_⟩); (try refine ⟨rfl, ?_⟩)
    first | (intro acts; rw [hret _ acts rfl rfl rfl]) | rw [hret _ _ rfl rfl rfl]
    exact Steps.refl _
  · exact q.elim
def oc_vret : zd_S := fun _ _ st h Q => match st with
  | [] => Q (.inl none) h ∧ True
  | _ => False
theorem ok_vret (hr0 : zd_yr y = none) (hd : decode (zd_yb y) pc = .ok (.return_, 1)) : zd_ok l B y pc oc_vret := by
  intro K ls st h Q hK q
  unfold oc_vret at q
  split at q
  · obtain ⟨hq, -⟩ := q
    intro p e R s m args below meth c c0 n0 hX hc H locs arr hR hL hA T hT X
    have hr : meth.sig.returnType = none := hX.2.2.2.1.trans hr0
    obtain ⟨fs, hret, hrun, hended, hW, hframe⟩ := X.leave (v := none) (fun _ => rfl) hX.2.2.2.2.1
    have hmeth' : T.vm.method? m = some meth := X.method'
    have hexec := hX.1
    have hb := hX.2.1
    refine ⟨T.setFrames fs, ?_, .returned none, .inl none, h, hrun, hended, rfl, hq, (fun z e => by cases e), hc, by show zd_R B h T.heap; rw [hT]; exact hR, hW, locs, hL, hframe⟩
    jvm_step X.here [X.here.top, hexec, hb, hd, hmeth', hr]
    (try refine ⟨rfl, ?_⟩); (try refine ⟨rfl, ?_⟩)
    first | (intro acts; rw [hret _ acts rfl rfl rfl]) | rw [hret _ _ rfl rfl rfl]
    exact Steps.refl _
  · exact q.elim
theorem zd_nohand {p : Program} {R : Room} {s : State} {m : MethodId} {meth : Method} {c : Code} {c0 n0 : Nat} (hX : zd_X B y p R s m meth c c0 n0) (hh : zd_yh y = []) (pc : Nat) : ∀ x ∈ c.exceptionTable.toList, covers x pc = false := by
  have h := hX.2.2.2.2.2.2.2.2.1
  rw [hh] at h
  rw [List.map_eq_nil_iff] at h
  rw [h]
  intro x hx
  cases hx
def oc_athrow (B : zd_B) : zd_S := fun _ _ st h Q => match st with
  | .ref a :: _ => ∃ ci fs, zd_Ob B h a ci fs ∧ Q (.inr (a, ci)) h
  | _ => False
theorem ok_athrow (hh : zd_yh y = []) (hd : decode (zd_yb y) pc = .ok (.athrow, 1)) : zd_ok l B y pc (oc_athrow B) := by
  intro K ls st h Q hK q
  unfold oc_athrow at q
  split at q
  · rename_i a r
    obtain ⟨ci, fs, ho, hq⟩ := q
    intro p e R s m args below meth c c0 n0 hX hc H locs arr hR hL hA T hT X
    obtain ⟨hs, h1, h2, h3, h4⟩ := X.athrowLeaves hX.1 (g := F0 m pc arr (.ref a :: r)) rfl rfl rfl (zd_nohand hX hh pc) rfl (by rw [hX.2.1]; exact hd) hX.2.2.2.2.1
    exact ⟨_, hs, .threw a, .inr (a, ci), h, h1, h2, rfl, hq, (fun z e => by cases e; exact ⟨fs, ho⟩), hc, by show zd_R B h T.heap; rw [hT]; exact hR, h3, locs, hL, h4⟩
  · exact q.elim
/-- what a callee must be in the tables -/
def zd_cw (y : zd_Y) : Cond := match zd_yh y with
  | [] => .code (zd_yn y) (zd_yb y) (zd_yl y) (zd_yr y)
  | hs => .codeWith (zd_yn y) (zd_yb y) (zd_yl y) (zd_yr y) hs
theorem zd_cw_spec {y : zd_Y} {args : Array Value} {s : State} {m : MethodId} (hn : s.methodNamed? (zd_yn y) = some m) (h : (zd_cw y).before args s = true) :
    ∃ meth c, s.vm.method? m = some meth ∧ meth.code = some c ∧ c.code = zd_yb y ∧ c.maxLocals = zd_yl y ∧ meth.sig.returnType = zd_yr y ∧ meth.locks = false ∧ (c.exceptionTable.toList.map (fun x => (x.startPc, x.endPc, x.handlerPc, x.catchType)) = zd_yh y) ∧ parseMethodDescriptor (zd_yn y).desc = some meth.sig := by
  unfold zd_cw at h
  split at h
  · rename_i hh
    obtain ⟨meth, c, h1, h2, h3, h4, h5, h6, h7, h8⟩ := Cond.code_spec hn h
    refine ⟨meth, c, h1, h2, h3, h4, h5, h6, ?_, h8⟩
    have : c.exceptionTable.toList = [] := by simpa using h7
    rw [this, hh]
    rfl
  · obtain ⟨m', meth, c, h0, h1, h2, h3, h4, h5, h6, h7, h8⟩ := Cond.codeWith_spec h
    cases hn.symm.trans h0
    exact ⟨meth, c, h1, h2, h3, h4, h6, h7, h5, h8⟩
theorem zd_cw_good (y : zd_Y) : ((zd_cw y).onTables && (zd_cw y).keeps) = true := by
  unfold zd_cw
  split <;> first | rfl | simp [Cond.onTables, Cond.keeps, Cond.steady]
/-- THE CALL: the callee's walk, both outcomes -/
theorem zd_core {y2 : zd_Y} (hG : zd_G B) {p : Program} {e : Env} {R : Room} {s : State} {m : MethodId} {args : Array Value} {below : List Frame} {meth : Method} {c : Code} {c0 n0 : Nat} {T : State} {locs : List Loc} {h : zd_H} {arr : Array Slot} {rest : List Value}
    (hX : zd_X B y p R s m meth c c0 n0) (hc : c0 ≤ h.1 ∧ n0 ≤ h.2.1 ∧ h.1 ≤ zd_CB ∧ h.2.1 ≤ zd_SB) (hR : zd_R B h T.heap) (hL : ∀ q ∈ locs, zd_b0 B ≤ q.base) (hA : arr.size = zd_yl y)
    (X : Stand p l e R s m args below meth c T locs (h.1 - c0) (h.2.1 - n0)) {ig : Instr} (hd : decode (zd_yb y) pc = .ok (ig, 3))
    (hcw : zd_cw y2 ∈ lw_tbl) (hpl : plainFor (zd_yn y2) = true) {mk : MethodId} (hnamed : s.methodNamed? (zd_yn y2) = some mk) {as : List Value} (has : (lg_sl as).length ≤ zd_yl y2)
    (hfr : zd_yf y2 + 1 ≤ zd_yf y) (hwo : 8 + (zd_yl y2 + 11) + zd_yw y2 ≤ zd_yw y) (hst : (rest.map fun v => v.category).sum ≤ 8)
    {Q2 : zd_O → zd_H → Prop} (hM : zd_M l B y2 as h Q2) :
    ∃ (x : zd_O) (g : zd_H) (T' : State) (locs' : List Loc), Q2 x g ∧ (∀ q, x = .inr q → ∃ fs, zd_Ob B g q.1 q.2 fs) ∧ (c0 ≤ g.1 ∧ n0 ≤ g.2.1 ∧ g.1 ≤ zd_CB ∧ g.2.1 ≤ zd_SB) ∧ zd_R B g T'.heap ∧ (∀ q ∈ locs', zd_b0 B ≤ q.base) ∧
      Stand p l e R s m args below meth c T' locs' (g.1 - c0) (g.2.1 - n0) ∧
      (∀ v, x = .inl v → Steps p.tables e below (doInvoke e (T.setTop (F0 m pc arr rest)) [] mk as.toArray).1 (T'.setTop (F0 m (pc + 3) arr (v.toList ++ rest)))) ∧
      (∀ q, x = .inr q → Steps p.tables e below (doInvoke e (T.setTop (F0 m pc arr rest)) [] mk as.toArray).1 ((T'.setTop (F0 m pc arr rest)).pushFrame (.throwing q.1))) := by
  have hdg : decode c.code (F0 m pc arr rest).pc = .ok (ig, 3) := by rw [hX.2.1]; exact hd
  have hcode : (zd_cw y2).before args s = true := zd_wd hG hX hcw (Or.inl (zd_cw_good y2)) args
  obtain ⟨methk, ck, h1, h2, h3, h4, h5, h6, h7, h8⟩ := zd_cw_spec hnamed hcode
  have hmT : T.vm.method? mk = some methk := by rw [X.warmed.alike.method?]; exact h1
  have hnT : T.methodNamed? (zd_yn y2) = some mk := X.named hnamed
  have hpk : T.plainMethod mk := State.plainMethod.of_named hpl hnT hmT
  obtain ⟨Y, hin⟩ := X.into (g := F0 m pc arr rest) rfl (hA.trans hX.2.2.1.symm) hdg as.toArray (R' := { frames := zd_yf y2, cells := zd_CB - h.1, slots := zd_SB - h.2.1, locals := zd_yw y2 }) hmT h2 h6 hpk
    (by show zd_yf y2 + 1 ≤ R.frames; have := hX.2.2.2.2.2.2.2.2.2.1; omega)
    (by show 2 * 0 + (rest.map fun v => v.category).sum + (ck.maxLocals + 11) + zd_yw y2 ≤ R.locals; have := hX.2.2.2.2.2.2.2.2.2.2.1; rw [h4]; omega)
    (by show h.1 - c0 + (zd_CB - h.1) ≤ R.cells; have := hX.2.2.2.2.2.2.2.2.2.2.2.1; omega)
    (by show h.2.1 - n0 + (zd_SB - h.2.1) ≤ R.slots; have := hX.2.2.2.2.2.2.2.2.2.2.2.2.1; omega)
  have hX2 : zd_X B y2 p { frames := zd_yf y2, cells := zd_CB - h.1, slots := zd_SB - h.2.1, locals := zd_yw y2 } (T.calling (F0 m pc arr rest) mk as.toArray) mk methk ck h.1 h.2.1 :=
    ⟨hX.1, h3, h4, h5, h6, hnT, hmT, State.WarmedH.trans hX.2.2.2.2.2.2.2.1 X.warmed, h7, Nat.le_refl _, Nat.le_refl _, by show zd_CB ≤ zd_CB - h.1 + h.1; omega, by show zd_SB ≤ zd_SB - h.2.1 + h.2.1; omega, by show T.heap.size = _; exact hR.1⟩
  have k := hM p e _ _ mk as.toArray (.java (F0 m pc arr rest) :: below) methk ck h.1 h.2.1 hX2 ⟨Nat.le_refl _, Nat.le_refl _, hc.2.2.1, hc.2.2.2⟩ T.heap [] _ hR (fun q hq => by cases hq) (zd_Lh.entry as has)
  rw [Nat.sub_self, Nat.sub_self] at k
  obtain ⟨t, hs, o, x, g, b1, b2, b3, b4, b5, b6, b7, b8, L, b9, b10⟩ := k ((T.setTop (F0 m pc arr rest)).pushFrame (.java (entryFrame mk as.toArray ck.maxLocals))) rfl Y
  have hs' : Steps p.tables e below (doInvoke e (T.setTop (F0 m pc arr rest)) [] mk as.toArray).1 t := by
    rw [h4, lg_entry_eq] at hs
    rw [hin [], h4, lg_entry_eq]
    exact zd_weak (mid := [.java (F0 m pc arr rest)]) hs
  have hLL : ∀ q ∈ locs ++ L, zd_b0 B ≤ q.base := fun q hq => by
    rcases List.mem_append.mp hq with hq | hq
    · exact hL q hq
    · exact b9 q hq
  cases x with
  | inl v =>
    have ho : o = .returned v := b3
    subst ho
    obtain ⟨T', X', hW', hsame', ht⟩ := X.outOf (g := F0 m pc arr rest) rfl hdg b2 b8 b10
    have hheap : T'.heap = t.heap := by rw [ht]; rfl
    refine ⟨.inl v, g, T', locs ++ L, b4, b5, ⟨by omega, by omega, b6.2.2.1, b6.2.2.2⟩, by rw [hheap]; exact b7, hLL, ?_, fun w hw => ?_, fun q hq => by cases hq⟩
    · have e1 : h.1 - c0 + (g.1 - h.1) = g.1 - c0 := by omega
      have e2 : h.2.1 - n0 + (g.2.1 - h.2.1) = g.2.1 - n0 := by omega
      rw [e1, e2] at X'
      exact X'
    · cases hw
      rw [ht] at hs'
      exact hs'
  | inr z =>
    have ho : o = .threw z.1 := b3
    subst ho
    obtain ⟨T', X', hW', hsame', ht⟩ := X.outOfThrown (g := F0 m pc arr rest) rfl b2 b8 b10
    have hheap : T'.heap = t.heap := by rw [ht]; exact (Stand.throwing_heap T' _ _).symm
    refine ⟨.inr z, g, T', locs ++ L, b4, b5, ⟨by omega, by omega, b6.2.2.1, b6.2.2.2⟩, by rw [hheap]; exact b7, hLL, ?_, fun w hw => by (cases hw), fun q hq => ?_⟩
    · have e1 : h.1 - c0 + (g.1 - h.1) = g.1 - c0 := by omega
      have e2 : h.2.1 - n0 + (g.2.1 - h.2.1) = g.2.1 - n0 := by omega
      rw [e1, e2] at X'
      exact X'
    · cases hq
      rw [ht] at hs'
      exact hs'
/-- behind the call: on with the value, or out with the exception -/
theorem zd_after (hh : zd_yh y = []) {p : Program} {e : Env} {R : Room} {s : State} {m : MethodId} {args : Array Value} {below : List Frame} {meth : Method} {c : Code} {c0 n0 : Nat} {arr : Array Slot} {rest : List Value} {ls : zd_V} {K : zd_K} {Q : zd_O → zd_H → Prop}
    (hX : zd_X B y p R s m meth c c0 n0) (hA : zd_Lh arr (zd_yl y) ls) (hK : ∀ pc' ls' st' h', K pc' ls' st' h' → zd_W l B y pc' ls' st' h' Q) {inv : State}
    (hc : ∃ (x : zd_O) (g : zd_H) (T' : State) (locs' : List Loc), (match x with
        | .inl v => K (pc + 3) ls (v.toList ++ rest) g
        | .inr q => Q (.inr q) g) ∧ (∀ q, x = .inr q → ∃ fs, zd_Ob B g q.1 q.2 fs) ∧ (c0 ≤ g.1 ∧ n0 ≤ g.2.1 ∧ g.1 ≤ zd_CB ∧ g.2.1 ≤ zd_SB) ∧ zd_R B g T'.heap ∧ (∀ q ∈ locs', zd_b0 B ≤ q.base) ∧
      Stand p l e R s m args below meth c T' locs' (g.1 - c0) (g.2.1 - n0) ∧
      (∀ v, x = .inl v → Steps p.tables e below inv (T'.setTop (F0 m (pc + 3) arr (v.toList ++ rest)))) ∧
      (∀ q, x = .inr q → Steps p.tables e below inv ((T'.setTop (F0 m pc arr rest)).pushFrame (.throwing q.1)))) :
    ∃ t, Steps p.tables e below inv t ∧ zd_F B s below c0 n0 Q t := by
  obtain ⟨x, g, T', locs', hq, hx, hb, hR, hL, X', hi, ho⟩ := hc
  cases x with
  | inl v =>
    obtain ⟨t, a1, a2⟩ := hK _ _ _ _ hq p e R s m args below meth c c0 n0 hX hb T'.heap locs' arr hR hL hA T' rfl X'
    exact ⟨t, (hi v rfl).trans a1, a2⟩
  | inr z =>
    obtain ⟨hs, h1, h2, h3, h4⟩ := X'.leaveThrown z.1 (g := F0 m pc arr rest) rfl rfl rfl (zd_nohand hX hh pc) hX.2.2.2.2.1
    exact ⟨_, (ho z rfl).trans hs, .threw z.1, .inr z, g, h1, h2, rfl, hq, hx, hb, hR, h3, locs', hL, h4⟩
def zd_cont (K : zd_K) (Q : zd_O → zd_H → Prop) (nx : Nat) (ls : zd_V) (rest : List Value) : zd_O → zd_H → Prop := fun x g => match x with
  | .inl v => K nx ls (v.toList ++ rest) g
  | .inr q => Q (.inr q) g
/-- a static method, n arguments -/
def oc_calls (l : Launch) (B : zd_B) (y2 : zd_Y) (n nx : Nat) : zd_S := fun K ls st h Q => ((st.take n).length = n ∧ ((st.drop n).map fun v => v.category).sum ≤ 8 ∧ (lg_sl (st.take n).reverse).length ≤ zd_yl y2) ∧ zd_M l B y2 (st.take n).reverse h (zd_cont K Q nx ls (st.drop n))
/-- the static facts of a call -/
def zd_cf (y y2 : zd_Y) (n : Nat) : Prop := zd_cw y2 ∈ lw_tbl ∧ plainFor (zd_yn y2) = true ∧ zd_yf y2 + 1 ≤ zd_yf y ∧ 8 + (zd_yl y2 + 11) + zd_yw y2 ≤ zd_yw y ∧ ((zd_yn y2).cls ≠ "java/lang/invoke/MethodHandle" ∧ (zd_yn y2).cls ≠ "java/lang/invoke/VarHandle") ∧ (parseMethodDescriptor (zd_yn y2).desc).map (fun d => d.parameters.length) = some n
theorem zd_cf_len {y y2 : zd_Y} {n : Nat} (h : zd_cf y y2 n) {as : List Value} (ha : as.length = n) : ∀ sig, parseMethodDescriptor (zd_yn y2).desc = some sig → as.length = sig.parameters.length := by
  intro sig hs
  have := h.2.2.2.2.2
  rw [hs] at this
  rw [ha]
  exact (Option.some.inj this).symm
theorem ok_calls (hG : zd_G B) {y2 : zd_Y} {n idx : Nat} (hf : zd_cf y y2 n) (hh : zd_yh y = []) (hl : Cond.methodLink (zd_yn y).cls idx (zd_yn y2) ∈ lw_tbl) (hs : Cond.static (zd_yn y2) ∈ lw_tbl) (hi : Cond.initialized (zd_yn y2).cls ∈ lw_tbl) (hd : decode (zd_yb y) pc = .ok (.invokestatic idx, 3)) : zd_ok l B y pc (oc_calls l B y2 n (pc + 3)) := by
  intro K ls st h Q hK q
  obtain ⟨⟨hn, hst, has⟩, hM⟩ := q
  intro p e R s m args below meth c c0 n0 hX hc H locs arr hR hL hA T hT X
  subst hT
  have hcode : (zd_cw y2).before args s = true := zd_wd hG hX hf.1 (Or.inl (zd_cw_good y2)) args
  have hlink := zd_wd hG hX hl (Or.inl (by first | rfl | simp [Cond.onTables, Cond.keeps, Cond.steady])) args
  have hstat := zd_wd hG hX hs (Or.inl (by first | rfl | simp [Cond.onTables, Cond.keeps, Cond.steady])) args
  have hinit := zd_wd hG hX hi (Or.inl (by first | rfl | simp [Cond.onTables, Cond.keeps, Cond.steady])) args
  obtain ⟨mk, hnamed⟩ : ∃ mk, s.methodNamed? (zd_yn y2) = some mk := by
    unfold zd_cw at hcode
    split at hcode
    · exact Cond.code_named hcode
    · obtain ⟨m', -, -, h0, -⟩ := Cond.codeWith_spec hcode
      exact ⟨m', h0⟩
  obtain ⟨methM, cM, hmethM, -, -, -, -, -, -, hsigM⟩ := zd_cw_spec hnamed hcode
  have hstatic : methM.isStatic = true := Cond.static_spec hnamed hmethM hstat
  obtain ⟨kP, hkP, -⟩ := className_of_methodNamed hnamed
  have hinitP : kP.init = .initialized := Cond.initialized_spec (findClass_of_methodNamed hnamed) hkP hinit
  have hstack : st = (st.take n).reverse.reverse ++ st.drop n := by rw [List.reverse_reverse, List.take_append_drop]
  obtain ⟨vm₁, X₁, hstep₁⟩ := X.invokestatic hX.1 (zd_own hX) hlink hnamed hmethM hstatic hkP hinitP hf.2.2.2.2.1 (g := F0 m pc arr st) rfl (argsL := (st.take n).reverse) (rest := st.drop n) (zd_cf_len hf (by simpa using hn) _ hsigM) hstack (by rw [hX.2.1]; exact hd)
  obtain ⟨t, a1, a2⟩ := zd_after (pc := pc) (arr := arr) (rest := st.drop n) (inv := (doInvoke e ((T.setVm vm₁).setTop (F0 m pc arr (st.drop n))) [] mk (st.take n).reverse.toArray).1) hh hX hA hK
    (zd_core (pc := pc) (arr := arr) (rest := st.drop n) hG hX hc (T := T.setVm vm₁) hR hL hA.1 X₁ hd hf.1 hf.2.1 hnamed has hf.2.2.1 hf.2.2.2.1 hst hM)
  exact ⟨t, hstep₁ _ fun acts => by rw [doInvoke_state]; exact a1, a2⟩
end ZE

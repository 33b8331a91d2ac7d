/-! calls of methods with a receiver, of constructors; nest mates (written by gen_calls.py) -/
section ZV
variable {l : Launch} {B : zd_B} {y : zd_Y} {pc : Nat}
/-- a method of the object under its n arguments -/
def oc_callv (l : Launch) (B : zd_B) (ci : Nat) (y2 : zd_Y) (n nx : Nat) : zd_S := fun K ls st h Q => match st.drop n with
  | .ref a :: rest => (∃ fs, zd_Ob B h a ci fs) ∧ ((st.take n).length = n ∧ (rest.map fun v => v.category).sum ≤ 8 ∧ (lg_sl (.ref a :: (st.take n).reverse)).length ≤ zd_yl y2) ∧ zd_M l B y2 (.ref a :: (st.take n).reverse) h (zd_cont K Q nx ls rest)
  | _ => False
/-- a constructor -/
def oc_calli (l : Launch) (B : zd_B) (y2 : zd_Y) (n nx : Nat) : zd_S := fun K ls st h Q => match st.drop n with
  | .ref a :: rest => ((st.take n).length = n ∧ (rest.map fun v => v.category).sum ≤ 8 ∧ (lg_sl (.ref a :: (st.take n).reverse)).length ≤ zd_yl y2) ∧ zd_M l B y2 (.ref a :: (st.take n).reverse) h (zd_cont K Q nx ls rest)
  | _ => False
theorem ok_callv (hG : zd_G B) {y2 : zd_Y} {n idx ci : Nat} {C : String} {Tt : u_T} {N : Nat} (hcl : zd_cl[ci]? = some (C, Tt, N)) (hf : zd_cf y y2 n) (hh : zd_yh y = []) (hl : Cond.methodLink (zd_yn y).cls idx (zd_yn y2) ∈ lw_tbl) (hin : Cond.instanceMethod (zd_yn y2) ∈ lw_tbl) (hse : Cond.selects C (zd_yn y2) (zd_yn y2) ∈ lw_tbl) (hd : decode (zd_yb y) pc = .ok (.invokevirtual idx, 3)) : zd_ok l B y pc (oc_callv l B ci y2 n (pc + 3)) := by
  intro K ls st h Q hK q
  unfold oc_callv at q
  split at q
  · rename_i a rest hdrop
    obtain ⟨⟨fs, ho⟩, ⟨hn, hst, has⟩, hM⟩ := q
    intro p e R s m args below meth c c0 n0 hX hc H locs arr hR hL hA T hT X
    subst hT
    have hcode : (zd_cw y2).before args s = true := zd_wd hG hX hf.1 (Or.inl (zd_cw_good y2)) args
    have hlink : (Cond.methodLink (zd_yn y).cls idx (zd_yn y2)).before args s = true := zd_wd hG hX hl (Or.inl (by first | rfl | simp [Cond.onTables, Cond.keeps, Cond.steady])) args
    have hinst := zd_wd hG hX hin (Or.inl (by first | rfl | simp [Cond.onTables, Cond.keeps, Cond.steady])) args
    have hsel := zd_wd hG hX hse (Or.inl (by first | rfl | simp [Cond.onTables, Cond.keeps, Cond.steady])) args
    obtain ⟨mk, methM, hnamed, hmethM, hstM, habM⟩ := Cond.instanceMethod_spec hinst
    obtain ⟨methM', cM, hmethM', -, -, -, -, -, -, hsigM⟩ := zd_cw_spec hnamed hcode
    cases hmethM.symm.trans hmethM'
    obtain ⟨rr, h1, cellB, hcell, hclB, hvmB, -⟩ := hR.ob ho 0 _ rfl
    have hr : rr = (C, Tt, N) := Option.some.inj (h1.symm.trans hcl)
    subst hr
    obtain ⟨-, hfc, -⟩ := (zd_kn hG hX).1 ci _ hcl
    obtain ⟨c2, r2, m2, q1, q2, q3, q4, kP, hkP, hkPi⟩ := Cond.selects_spec hsel
    have hcls : s.vm.findClass C = some cellB.cls := by rw [hclB]; exact hfc
    cases hcls.symm.trans q1
    cases (State.methodFound?_of_named hnamed hf.2.2.2.2.1).symm.trans q2
    cases hnamed.symm.trans q3
    have hselP : selectMethod e.platform s.vm cellB.cls mk = .method mk := by rw [Launch.admits_selectMethod X.admits]; exact q4
    have hstack : st = (st.take n).reverse.reverse ++ .ref a :: rest := by rw [List.reverse_reverse, ← hdrop, List.take_append_drop]
    obtain ⟨vm₁, X₁, hstep₁⟩ := X.invokevirtual hX.1 (zd_own hX) hlink hnamed hmethM hstM hkP hkPi hf.2.2.2.2.1 (a := a) (cell := cellB) hcell (fun z hz => by rw [hz] at hvmB; cases hvmB) hselP hmethM habM hkP hkPi (g := F0 m pc arr st) rfl (argsL := (st.take n).reverse) (rest := rest) (zd_cf_len hf (by simpa using hn) _ hsigM) hstack (by rw [hX.2.1]; exact hd)
    have hcore := zd_core (l := l) (y := y) (pc := pc) (arr := arr) (rest := rest) (as := Value.ref a :: (st.take n).reverse) hG hX hc (T := T.setVm vm₁) hR hL hA.1 X₁ hd hf.1 hf.2.1 hnamed has hf.2.2.1 hf.2.2.2.1 hst hM
    obtain ⟨t, a1, a2⟩ := zd_after (pc := pc) (arr := arr) (rest := rest) hh hX hA hK hcore
    exact ⟨t, hstep₁ _ fun acts => by rw [doInvoke_state]; exact a1, a2⟩
  · exact q.elim
theorem ok_calli (hG : zd_G B) {y2 : zd_Y} {n idx : Nat} (hf : zd_cf y y2 n) (hh : zd_yh y = []) (hh2 : zd_yh y2 = []) (hr2 : zd_yr y2 = none) (hy1 : (zd_yn y2).name = "<init>") (hl : Cond.methodLink (zd_yn y).cls idx (zd_yn y2) ∈ lw_tbl) (hin : Cond.instanceMethod (zd_yn y2) ∈ lw_tbl) (hd : decode (zd_yb y) pc = .ok (.invokespecial idx, 3)) : zd_ok l B y pc (oc_calli l B y2 n (pc + 3)) := by
  intro K ls st h Q hK q
  unfold oc_calli at q
  split at q
  · rename_i a rest hdrop
    obtain ⟨⟨hn, hst, has⟩, hM⟩ := q
    intro p e R s m args below meth c c0 n0 hX hc H locs arr hR hL hA T hT X
    subst hT
    have hpl : e.platform.magicAccessors = ({} : Platform).magicAccessors := by rw [X.admits.platform]
    have hcode0 : (zd_cw y2).before args s = true := zd_wd hG hX hf.1 (Or.inl (zd_cw_good y2)) args
    have hcode : (Cond.code (zd_yn y2) (zd_yb y2) (zd_yl y2) none).before args s = true := by
      unfold zd_cw at hcode0
      rw [hh2, hr2] at hcode0
      exact hcode0
    have hlink : (Cond.methodLink (zd_yn y).cls idx (zd_yn y2)).before args s = true := zd_wd hG hX hl (Or.inl (by first | rfl | simp [Cond.onTables, Cond.keeps, Cond.steady])) args
    have hinst := zd_wd hG hX hin (Or.inl (by first | rfl | simp [Cond.onTables, Cond.keeps, Cond.steady])) args
    have hstack : st = (st.take n).reverse.reverse ++ .ref a :: rest := by rw [List.reverse_reverse, ← hdrop, List.take_append_drop]
    obtain ⟨mk, methM, cM, kP, vm₁, hnamed, hmethM, hcodeM, -, hlocalsM, -, hkP, -, hW₁, hstep₁⟩ := Steps.initColdArgs (e := e) X.here hX.1 X.warmed hpl (zd_own hX) hy1 hf.2.2.2.2.1 hlink hinst hcode (f := F0 m pc arr st) rfl (zd_cf_len hf (by simpa using hn)) hstack (by rw [hX.2.1]; exact hd)
    have X₁ := X.noted hW₁
    have hcore := zd_core (l := l) (y := y) (pc := pc) (arr := arr) (rest := rest) (as := Value.ref a :: (st.take n).reverse) hG hX hc (T := T.setVm vm₁) hR hL hA.1 X₁ hd hf.1 hf.2.1 hnamed has hf.2.2.1 hf.2.2.2.1 hst hM
    obtain ⟨t, a1, a2⟩ := zd_after (pc := pc) (arr := arr) (rest := rest) hh hX hA hK hcore
    exact ⟨t, hstep₁ _ fun acts => by rw [doInvoke_state]; exact a1, a2⟩
  · exact q.elim
theorem ok_callvN (hG : zd_G B) {y2 : zd_Y} {n idx ci : Nat} {C : String} {Tt : u_T} {N : Nat} {host : String} (hcl : zd_cl[ci]? = some (C, Tt, N)) (hf : zd_cf y y2 n) (hh : zd_yh y = []) (hl : Cond.methodLinkNest (zd_yn y).cls idx (zd_yn y2) host ∈ lw_tbl) (hin : Cond.instanceMethod (zd_yn y2) ∈ lw_tbl) (hse : Cond.selects C (zd_yn y2) (zd_yn y2) ∈ lw_tbl) (hd : decode (zd_yb y) pc = .ok (.invokevirtual idx, 3)) : zd_ok l B y pc (oc_callv l B ci y2 n (pc + 3)) := by
  intro K ls st h Q hK q
  unfold oc_callv at q
  split at q
  · rename_i a rest hdrop
    obtain ⟨⟨fs, ho⟩, ⟨hn, hst, has⟩, hM⟩ := q
    intro p e R s m args below meth c c0 n0 hX hc H locs arr hR hL hA T hT X
    subst hT
    have hcode : (zd_cw y2).before args s = true := zd_wd hG hX hf.1 (Or.inl (zd_cw_good y2)) args
    have hlink : (Cond.methodLinkNest (zd_yn y).cls idx (zd_yn y2) host).before args s = true := va_Nw.use rfl (va_Nw.warmM hX.2.2.2.2.2.2.2.1 (va_Nw.of rfl (hG.1 _ hl)))
    have hinst := zd_wd hG hX hin (Or.inl (by first | rfl | simp [Cond.onTables, Cond.keeps, Cond.steady])) args
    have hsel := zd_wd hG hX hse (Or.inl (by first | rfl | simp [Cond.onTables, Cond.keeps, Cond.steady])) args
    obtain ⟨mk, methM, hnamed, hmethM, hstM, habM⟩ := Cond.instanceMethod_spec hinst
    obtain ⟨methM', cM, hmethM', -, -, -, -, -, -, hsigM⟩ := zd_cw_spec hnamed hcode
    cases hmethM.symm.trans hmethM'
    obtain ⟨rr, h1, cellB, hcell, hclB, hvmB, -⟩ := hR.ob ho 0 _ rfl
    have hr : rr = (C, Tt, N) := Option.some.inj (h1.symm.trans hcl)
    subst hr
    obtain ⟨-, hfc, -⟩ := (zd_kn hG hX).1 ci _ hcl
    obtain ⟨c2, r2, m2, q1, q2, q3, q4, kP, hkP, hkPi⟩ := Cond.selects_spec hsel
    have hcls : s.vm.findClass C = some cellB.cls := by rw [hclB]; exact hfc
    cases hcls.symm.trans q1
    cases (State.methodFound?_of_named hnamed hf.2.2.2.2.1).symm.trans q2
    cases hnamed.symm.trans q3
    have hselP : selectMethod e.platform s.vm cellB.cls mk = .method mk := by rw [Launch.admits_selectMethod X.admits]; exact q4
    have hstack : st = (st.take n).reverse.reverse ++ .ref a :: rest := by rw [List.reverse_reverse, ← hdrop, List.take_append_drop]
    obtain ⟨vm₁, X₁, hstep₁⟩ := X.invokevirtualNest hX.1 (zd_own hX) hlink hnamed hmethM hstM hkP hkPi hf.2.2.2.2.1 (a := a) (cell := cellB) hcell (fun z hz => by rw [hz] at hvmB; cases hvmB) hselP hmethM habM hkP hkPi (g := F0 m pc arr st) rfl (argsL := (st.take n).reverse) (rest := rest) (zd_cf_len hf (by simpa using hn) _ hsigM) hstack (by rw [hX.2.1]; exact hd)
    have hcore := zd_core (l := l) (y := y) (pc := pc) (arr := arr) (rest := rest) (as := Value.ref a :: (st.take n).reverse) hG hX hc (T := T.setVm vm₁) hR hL hA.1 X₁ hd hf.1 hf.2.1 hnamed has hf.2.2.1 hf.2.2.2.1 hst hM
    obtain ⟨t, a1, a2⟩ := zd_after (pc := pc) (arr := arr) (rest := rest) hh hX hA hK hcore
    exact ⟨t, hstep₁ _ fun acts => by rw [doInvoke_state]; exact a1, a2⟩
  · exact q.elim
theorem ok_calliN (hG : zd_G B) {y2 : zd_Y} {n idx : Nat} {host : String} (hf : zd_cf y y2 n) (hh : zd_yh y = []) (hh2 : zd_yh y2 = []) (hr2 : zd_yr y2 = none) (hy1 : (zd_yn y2).name = "<init>") (hl : Cond.methodLinkNest (zd_yn y).cls idx (zd_yn y2) host ∈ lw_tbl) (hin : Cond.instanceMethod (zd_yn y2) ∈ lw_tbl) (hd : decode (zd_yb y) pc = .ok (.invokespecial idx, 3)) : zd_ok l B y pc (oc_calli l B y2 n (pc + 3)) := by
  intro K ls st h Q hK q
  unfold oc_calli at q
  split at q
  · rename_i a rest hdrop
    obtain ⟨⟨hn, hst, has⟩, hM⟩ := q
    intro p e R s m args below meth c c0 n0 hX hc H locs arr hR hL hA T hT X
    subst hT
    have hpl : e.platform.magicAccessors = ({} : Platform).magicAccessors := by rw [X.admits.platform]
    have hcode0 : (zd_cw y2).before args s = true := zd_wd hG hX hf.1 (Or.inl (zd_cw_good y2)) args
    have hcode : (Cond.code (zd_yn y2) (zd_yb y2) (zd_yl y2) none).before args s = true := by
      unfold zd_cw at hcode0
      rw [hh2, hr2] at hcode0
      exact hcode0
    have hlink : (Cond.methodLinkNest (zd_yn y).cls idx (zd_yn y2) host).before args s = true := va_Nw.use rfl (va_Nw.warmM hX.2.2.2.2.2.2.2.1 (va_Nw.of rfl (hG.1 _ hl)))
    have hinst := zd_wd hG hX hin (Or.inl (by first | rfl | simp [Cond.onTables, Cond.keeps, Cond.steady])) args
    have hstack : st = (st.take n).reverse.reverse ++ .ref a :: rest := by rw [List.reverse_reverse, ← hdrop, List.take_append_drop]
    obtain ⟨mk, methM, cM, kP, vm₁, hnamed, hmethM, hcodeM, -, hlocalsM, -, hkP, -, hW₁, hstep₁⟩ := Steps.initColdArgsNest (e := e) X.here hX.1 X.warmed hpl (zd_own hX) hy1 hf.2.2.2.2.1 hlink hinst hcode (f := F0 m pc arr st) rfl (zd_cf_len hf (by simpa using hn)) hstack (by rw [hX.2.1]; exact hd)
    have X₁ := X.noted hW₁
    have hcore := zd_core (l := l) (y := y) (pc := pc) (arr := arr) (rest := rest) (as := Value.ref a :: (st.take n).reverse) hG hX hc (T := T.setVm vm₁) hR hL hA.1 X₁ hd hf.1 hf.2.1 hnamed has hf.2.2.1 hf.2.2.2.1 hst hM
    obtain ⟨t, a1, a2⟩ := zd_after (pc := pc) (arr := arr) (rest := rest) hh hX hA hK hcore
    exact ⟨t, hstep₁ _ fun acts => by rw [doInvoke_state]; exact a1, a2⟩
  · exact q.elim
theorem ok_callsN (hG : zd_G B) {y2 : zd_Y} {n idx : Nat} {host : String} (hf : zd_cf y y2 n) (hh : zd_yh y = []) (hl : Cond.methodLinkNest (zd_yn y).cls idx (zd_yn y2) host ∈ lw_tbl) (hs : Cond.static (zd_yn y2) ∈ lw_tbl) (hi : Cond.initialized (zd_yn y2).cls ∈ lw_tbl) (hd : decode (zd_yb y) pc = .ok (.invokestatic idx, 3)) : zd_ok l B y pc (oc_calls l B y2 n (pc + 3)) := by
  intro K ls st h Q hK q
  obtain ⟨⟨hn, hst, has⟩, hM⟩ := q
  intro p e R s m args below meth c c0 n0 hX hc H locs arr hR hL hA T hT X
  subst hT
  have hcode : (zd_cw y2).before args s = true := zd_wd hG hX hf.1 (Or.inl (zd_cw_good y2)) args
  have hlink : (Cond.methodLinkNest (zd_yn y).cls idx (zd_yn y2) host).before args s = true := va_Nw.use rfl (va_Nw.warmM hX.2.2.2.2.2.2.2.1 (va_Nw.of rfl (hG.1 _ hl)))
  have hstat := zd_wd hG hX hs (Or.inl (by first | rfl | simp [Cond.onTables, Cond.keeps, Cond.steady])) args
  have hinit := zd_wd hG hX hi (Or.inl (by first | rfl | simp [Cond.onTables, Cond.keeps, Cond.steady])) args
  obtain ⟨mk, hnamed⟩ : ∃ mk, s.methodNamed? (zd_yn y2) = some mk := by
    unfold zd_cw at hcode
    split at hcode
    · exact Cond.code_named hcode
    · obtain ⟨m', -, -, h0, -⟩ := Cond.codeWith_spec hcode
      exact ⟨m', h0⟩
  obtain ⟨methM, cM, hmethM, -, -, -, -, -, -, hsigM⟩ := zd_cw_spec hnamed hcode
  have hstatic : methM.isStatic = true := Cond.static_spec hnamed hmethM hstat
  obtain ⟨kP, hkP, -⟩ := className_of_methodNamed hnamed
  have hinitP : kP.init = .initialized := Cond.initialized_spec (findClass_of_methodNamed hnamed) hkP hinit
  have hstack : st = (st.take n).reverse.reverse ++ st.drop n := by rw [List.reverse_reverse, List.take_append_drop]
  obtain ⟨vm₁, X₁, hstep₁⟩ := X.invokestaticNest hX.1 (zd_own hX) hlink hnamed hmethM hstatic hkP hinitP hf.2.2.2.2.1 (g := F0 m pc arr st) rfl (argsL := (st.take n).reverse) (rest := st.drop n) (zd_cf_len hf (by simpa using hn) _ hsigM) hstack (by rw [hX.2.1]; exact hd)
  obtain ⟨t, a1, a2⟩ := zd_after (pc := pc) (arr := arr) (rest := st.drop n) (inv := (doInvoke e ((T.setVm vm₁).setTop (F0 m pc arr (st.drop n))) [] mk (st.take n).reverse.toArray).1) hh hX hA hK
    (zd_core (pc := pc) (arr := arr) (rest := st.drop n) hG hX hc (T := T.setVm vm₁) hR hL hA.1 X₁ hd hf.1 hf.2.1 hnamed has hf.2.2.1 hf.2.2.2.1 hst hM)
  exact ⟨t, hstep₁ _ fun acts => by rw [doInvoke_state]; exact a1, a2⟩
/-- Object's constructor -/
def oc_oinit (nx : Nat) : zd_S := fun K ls st h _ => match st with
  | .ref _ :: r => (r.map fun v => v.category).sum ≤ 8 ∧ K nx ls r h
  | _ => False
theorem ok_oinit (hG : zd_G B) {idx : Nat} (hl : Cond.methodLink (zd_yn y).cls idx Lib.objectInit ∈ lw_tbl) (hin : Cond.instanceMethod Lib.objectInit ∈ lw_tbl) (hco : Cond.code Lib.objectInit ⟨#[0xb1]⟩ 1 none ∈ lw_tbl) (hf : 1 ≤ zd_yf y) (hw : 20 ≤ zd_yw y) (hd : decode (zd_yb y) pc = .ok (.invokespecial idx, 3)) : zd_ok l B y pc (oc_oinit (pc + 3)) := by
  intro K ls st h Q hK q
  unfold oc_oinit at q
  split at q
  · rename_i a r
    obtain ⟨hs, q⟩ := q
    intro p e R s m args below meth c c0 n0 hX hc H locs arr hR hL hA
    refine W.objInit hX.1 hX.2.1 (zd_own hX) (zd_wd hG hX hl (Or.inl (by first | rfl | simp [Cond.onTables, Cond.keeps, Cond.steady])) args) (zd_wd hG hX hin (Or.inl (by first | rfl | simp [Cond.onTables, Cond.keeps, Cond.steady])) args) (zd_wd hG hX hco (Or.inl (by first | rfl | simp [Cond.onTables, Cond.keeps, Cond.steady])) args) (g := F0 m pc arr (.ref a :: r)) rfl (hA.1.trans hX.2.2.1.symm) rfl hd (by have := hX.2.2.2.2.2.2.2.2.2.1; omega) (by show 2 * 0 + _ + 12 ≤ _; have := hX.2.2.2.2.2.2.2.2.2.2.1; omega) ?_
    exact hK _ _ _ _ q p e R s m args below meth c c0 n0 hX hc H locs arr hR hL hA
  · exact q.elim
end ZV

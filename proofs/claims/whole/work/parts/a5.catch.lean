/-! calls under a handler -/
def zd_hx : Nat → Nat := fun k => match k with
  | 13 => 9
  | 15 => 10
  | 17 => 11
  | 71 => 12
  | _ => 0
def zd_nm : Nat → String := fun k => match k with
  | 9 => zR9
  | 10 => zR10
  | 11 => zR11
  | _ => zR12
/-- which handler takes an exception of this class -/
def zd_hd (pc ci : Nat) : List (Nat × Nat × Nat × Nat) → Option Nat
  | [] => none
  | x :: r => cond ((Nat.ble x.1 pc && Nat.blt pc x.2.1) && Nat.beq (zd_hx x.2.2.2) ci) (some x.2.2.1) (zd_hd pc ci r)
/-- what is given of classes that are not one another's -/
def zd_N (B : zd_B) : Prop := ∀ i, 9 ≤ i → i ≤ 12 → ∀ j, 9 ≤ j → j ≤ 12 → i ≠ j → (Cond.not (.castable (zd_nm i) (zd_nm j))).before (zd_ar B) (zd_s0 B) = true
def zd_conth (K : zd_K) (pc nx : Nat) (ls : zd_V) (rest : List Value) (hs : List (Nat × Nat × Nat × Nat)) : zd_O → zd_H → Prop := fun x g => match x with
  | .inl v => K nx ls (v.toList ++ rest) g
  | .inr q => match zd_hd pc q.2 hs with
    | some hp => K hp ls [.ref q.1] g
    | none => False
theorem zd_find {pc ci hp : Nat} : ∀ (L : List ExceptionTableEntry) (hs : List (Nat × Nat × Nat × Nat)), L.map (fun x => (x.startPc, x.endPc, x.handlerPc, x.catchType)) = hs → zd_hd pc ci hs = some hp →
    ∃ pre x rest, L = pre ++ x :: rest ∧ x.handlerPc = hp ∧ covers x pc = true ∧ zd_hx x.catchType = ci ∧ ∀ y ∈ pre, covers y pc = false ∨ zd_hx y.catchType ≠ ci := by
  intro L
  induction L with
  | nil => intro hs e h; subst e; cases h
  | cons y r ih =>
    intro hs e h
    subst e
    rw [List.map_cons] at h
    unfold zd_hd at h
    cases hb : ((Nat.ble y.startPc pc && Nat.blt pc y.endPc) && Nat.beq (zd_hx y.catchType) ci) with
    | true =>
      have h : some y.handlerPc = some hp := by rw [← h]; show _ = cond ((Nat.ble y.startPc pc && Nat.blt pc y.endPc) && Nat.beq (zd_hx y.catchType) ci) _ _; rw [hb]; rfl
      simp only [Bool.and_eq_true] at hb
      have c1 := Nat.le_of_ble_eq_true hb.1.1
      have c2 : pc < y.endPc := Nat.le_of_ble_eq_true hb.1.2
      exact ⟨[], y, r, rfl, Option.some.inj h, by unfold covers; rw [decide_eq_true c1, decide_eq_true c2]; rfl, Nat.eq_of_beq_eq_true hb.2, fun z hz => by cases hz⟩
    | false =>
      have h : zd_hd pc ci (r.map (fun x => (x.startPc, x.endPc, x.handlerPc, x.catchType))) = some hp := by rw [← h]; show _ = cond ((Nat.ble y.startPc pc && Nat.blt pc y.endPc) && Nat.beq (zd_hx y.catchType) ci) _ _; rw [hb]; rfl
      obtain ⟨pre, x, rest, e1, e2, e3, e4, e5⟩ := ih _ rfl h
      refine ⟨y :: pre, x, rest, by rw [e1]; rfl, e2, e3, e4, fun z hz => ?_⟩
      rcases List.mem_cons.mp hz with q | q
      · subst q
        by_cases hc : covers z pc = true
        · right
          intro hx
          unfold covers at hc
          rw [Bool.and_eq_true] at hc
          have c1 := of_decide_eq_true hc.1
          have c2 := of_decide_eq_true hc.2
          rw [hx, Nat.beq_refl, Bool.and_true] at hb
          have d1 : Nat.ble z.startPc pc = true := Nat.ble_eq_true_of_le c1
          have d2 : Nat.blt pc z.endPc = true := Nat.ble_eq_true_of_le c2
          rw [d1, d2] at hb
          cases hb
        · left
          cases hq : covers z pc
          · rfl
          · exact absurd hq hc
      · exact e5 z q
theorem zd_hx_nm {k : Nat} (h : zd_hx k ≠ 0) : k ≠ 0 ∧ 9 ≤ zd_hx k ∧ zd_hx k ≤ 12 := by
  unfold zd_hx at h ⊢
  split at h
  · exact ⟨by decide, by decide, by decide⟩
  · exact ⟨by decide, by decide, by decide⟩
  · exact ⟨by decide, by decide, by decide⟩
  · exact ⟨by decide, by decide, by decide⟩
  · exact absurd rfl h
theorem zd_hx_link {k : Nat} (h : zd_hx k ≠ 0) : Cond.classLink "DecimalDeskLaw" k (zd_nm (zd_hx k)) ∈ lw_tbl := by
  unfold zd_hx at h ⊢
  split at h
  · exact (List.mem_of_getElem? (i := 290) (by decide +kernel))
  · exact (List.mem_of_getElem? (i := 291) (by decide +kernel))
  · exact (List.mem_of_getElem? (i := 292) (by decide +kernel))
  · exact (List.mem_of_getElem? (i := 799) (by decide +kernel))
  · exact absurd rfl h
section XG
variable {l : Launch} {B : zd_B} {y : zd_Y} {pc : Nat}
theorem zd_afterh {hs : List (Nat × Nat × Nat × Nat)} (hh : zd_yh y = hs) (hown : (zd_yn y).cls = "DecimalDeskLaw") (hall : ∀ x ∈ hs, zd_hx x.2.2.2 ≠ 0) (hG : zd_G B) (hN : zd_N B) {p : Program} {e : Env} {R : Room} {s : State} {m : MethodId} {args : Array Value} {below : List Frame} {meth : Method} {c : Code} {c0 n0 : Nat} {arr : Array Slot} {rest : List Value} {ls : zd_V} {K : zd_K} {Q : zd_O → zd_H → Prop}
    (hX : zd_X B y p R s m meth c c0 n0) (hA : zd_Lh arr (zd_yl y) ls) (hK : ∀ pc' ls' st' h', K pc' ls' st' h' → zd_W l B y pc' ls' st' h' Q) {inv : State}
    (hc : ∃ (x : zd_O) (g : zd_H) (T' : State) (locs' : List Loc), zd_conth K pc (pc + 3) ls rest hs x g ∧ (∀ q, x = .inr q → ∃ fs, zd_Ob B g q.1 q.2 fs) ∧ (c0 ≤ g.1 ∧ n0 ≤ g.2.1 ∧ g.1 ≤ zd_CB ∧ g.2.1 ≤ zd_SB) ∧ zd_R B g T'.heap ∧ (∀ q ∈ locs', zd_b0 B ≤ q.base) ∧
      Stand p l e R s m args below meth c T' locs' (g.1 - c0) (g.2.1 - n0) ∧
      (∀ v, x = .inl v → Steps p.tables e below inv (T'.setTop (F0 m (pc + 3) arr (v.toList ++ rest)))) ∧
      (∀ q, x = .inr q → Steps p.tables e below inv ((T'.setTop (F0 m pc arr rest)).pushFrame (.throwing q.1)))) :
    ∃ t, Steps p.tables e below inv t ∧ zd_F B s below c0 n0 Q t := by
  obtain ⟨x, g, T', locs', hq, hx, hb, hR, hL, X', hi, ho⟩ := hc
  cases x with
  | inl v =>
    obtain ⟨t, a1, a2⟩ := hK _ _ _ _ hq p e R s m args below meth c c0 n0 hX hb T'.heap locs' arr hR hL hA T' rfl X'
    exact ⟨t, (hi v rfl).trans a1, a2⟩
  | inr z =>
    have hq : (match zd_hd pc z.2 hs with
      | some hp => K hp ls [.ref z.1] g
      | none => False) := hq
    cases hf : zd_hd pc z.2 hs with
    | none => rw [hf] at hq; exact hq.elim
    | some hp =>
      rw [hf] at hq
      have hq : K hp ls [.ref z.1] g := hq
      obtain ⟨fs, hob⟩ := hx z rfl
      have htab := hX.2.2.2.2.2.2.2.2.1
      rw [hh] at htab
      obtain ⟨pre, xx, rr, e1, e2, e3, e4, e5⟩ := zd_find _ _ htab hf
      have hmem : ∀ w ∈ c.exceptionTable.toList, zd_hx w.catchType ≠ 0 := fun w hw => hall (w.startPc, w.endPc, w.handlerPc, w.catchType) (by rw [← htab]; exact List.mem_map.mpr ⟨w, hw, rfl⟩)
      have hxx := hmem xx (by rw [e1]; exact List.mem_append_right _ List.mem_cons_self)
      obtain ⟨k1, k2, k3⟩ := zd_hx_nm hxx
      rw [e4] at k2 k3
      have hcl : ∃ T N, zd_cl[z.2]? = some (zd_nm z.2, T, N) := by
        have : z.2 = 9 ∨ z.2 = 10 ∨ z.2 = 11 ∨ z.2 = 12 := by omega
        rcases this with q | q | q | q <;> rw [q] <;> exact ⟨_, _, rfl⟩
      obtain ⟨TT, NN, hcl⟩ := hcl
      obtain ⟨r1, h1, cellB, hcell, hclB, hvmB, -⟩ := hR.ob hob 0 _ rfl
      have hr : r1 = (zd_nm z.2, TT, NN) := Option.some.inj (h1.symm.trans hcl)
      subst hr
      obtain ⟨-, hfc, -⟩ := (zd_kn hG hX).1 z.2 _ hcl
      have hfc : s.vm.findClass (zd_nm z.2) = some cellB.cls := by rw [hclB]; exact hfc
      have hown' : s.vm.findClass "DecimalDeskLaw" = some m.cls := by rw [← hown]; exact zd_own hX
      have hlink : ∀ w, zd_hx w ≠ 0 → (Cond.classLink "DecimalDeskLaw" w (zd_nm (zd_hx w))).before args s = true := fun w hw => zd_wd hG hX (zd_hx_link hw) (Or.inl (by first | rfl | simp [Cond.onTables, Cond.keeps, Cond.steady])) args
      have hpl : e.platform.magicAccessors = ({} : Platform).magicAccessors := by rw [X'.admits.platform]
      have hlx := hlink _ hxx
      rw [e4] at hlx
      obtain ⟨hend, hk0⟩ := X'.catches_of_link hown' k1 hlx hfc (show s.vm.assignable cellB.cls cellB.cls = true by
        show s.vm.assignableAux (255 + 1) cellB.cls cellB.cls = true
        rw [Vm.assignableAux, Bool.or_eq_true, beq_iff_eq]
        exact Or.inl rfl)
      have hpass : ∀ w ∈ pre, RowPassed e.platform s m.cls pc cellB.cls w := by
        intro w hw
        rcases e5 w hw with q | q
        · exact Or.inl q
        · have hwx := hmem w (by rw [e1]; exact List.mem_append_left _ hw)
          obtain ⟨w1, w2, w3⟩ := zd_hx_nm hwx
          obtain ⟨c', hc', hcl'⟩ := Cond.classLink_spec hown' (hlink _ hwx) e.platform hpl
          have hal := hX.2.2.2.2.2.2.2.1.alike
          have hv := Cond.holds_not_iff.mp (hN z.2 k2 k3 _ w2 w3 (fun q' => q q'.symm))
          rw [hal.findClass] at hfc hc'
          simp only [Cond.value, hfc, hc'] at hv
          exact Or.inr ⟨w1, c', hcl', by rw [hal.assignable]; exact Option.some.inj hv⟩
      obtain ⟨vm', XV, st⟩ := X'.thenCaughtThrough z.1 (g := F0 m pc arr rest) rfl (ho z rfl) hcell (by rw [hvmB]; rfl) hk0 pre xx rr e1 hpass e3 hend
      rw [e2] at st
      obtain ⟨t, a1, a2⟩ := hK _ _ _ _ hq p e R s m args below meth c c0 n0 hX hb (T'.setVm vm').heap locs' arr hR hL hA (T'.setVm vm') rfl XV
      exact ⟨t, st.trans a1, a2⟩
/-- a method of the object under its n arguments, under handlers -/
def oc_callvh (l : Launch) (B : zd_B) (hs : List (Nat × Nat × Nat × Nat)) (ci : Nat) (y2 : zd_Y) (n pc : Nat) : zd_S := fun K ls st h _ => match st.drop n with
  | .ref a :: rest => (∃ fs, zd_Ob B h a ci fs) ∧ ((st.take n).length = n ∧ (rest.map fun v => v.category).sum ≤ 8 ∧ (lg_sl (.ref a :: (st.take n).reverse)).length ≤ zd_yl y2) ∧ zd_M l B y2 (.ref a :: (st.take n).reverse) h (zd_conth K pc (pc + 3) ls rest hs)
  | _ => False
theorem ok_callvh (hG : zd_G B) (hN : zd_N B) {hs : List (Nat × Nat × Nat × Nat)} {y2 : zd_Y} {n idx ci : Nat} {C : String} {Tt : u_T} {N : Nat} (hcl : zd_cl[ci]? = some (C, Tt, N)) (hf : zd_cf y y2 n) (hh : zd_yh y = hs) (hown : (zd_yn y).cls = "DecimalDeskLaw") (hall : ∀ x ∈ hs, zd_hx x.2.2.2 ≠ 0) (hl : Cond.methodLink (zd_yn y).cls idx (zd_yn y2) ∈ lw_tbl) (hin : Cond.instanceMethod (zd_yn y2) ∈ lw_tbl) (hse : Cond.selects C (zd_yn y2) (zd_yn y2) ∈ lw_tbl) (hd : decode (zd_yb y) pc = .ok (.invokevirtual idx, 3)) : zd_ok l B y pc (oc_callvh l B hs ci y2 n pc) := by
  intro K ls st h Q hK q
  unfold oc_callvh at q
  split at q
  · rename_i a rest hdrop
    obtain ⟨⟨fs, ho⟩, ⟨hn, hst, has⟩, hM⟩ := q
    intro p e R s m args below meth c c0 n0 hX hc H locs arr hR hL hA T hT X
    subst hT
    have hcode : (zd_cw y2).before args s = true := zd_wd hG hX hf.1 (Or.inl (zd_cw_good y2)) args
    have hlink : (Cond.methodLink (zd_yn y).cls idx (zd_yn y2)).before args s = true := zd_wd hG hX hl (Or.inl (by first | rfl | simp [Cond.onTables, Cond.keeps, Cond.steady])) args
    have hinst := zd_wd hG hX hin (Or.inl (by first | rfl | simp [Cond.onTables, Cond.keeps, Cond.steady])) args
    have hsel := zd_wd hG hX hse (Or.inl (by first | rfl | simp [Cond.onTables, Cond.keeps, Cond.steady])) args
    obtain ⟨mk, methM, hnamed, hmethM, hstM, habM⟩ := Cond.instanceMethod_spec hinst
    obtain ⟨methM', cM, hmethM', -, -, -, -, -, -, hsigM⟩ := zd_cw_spec hnamed hcode
    cases hmethM.symm.trans hmethM'
    obtain ⟨rr, h1, cellB, hcell, hclB, hvmB, -⟩ := hR.ob ho 0 _ rfl
    have hr : rr = (C, Tt, N) := Option.some.inj (h1.symm.trans hcl)
    subst hr
    obtain ⟨-, hfc, -⟩ := (zd_kn hG hX).1 ci _ hcl
    obtain ⟨c2, r2, m2, q1, q2, q3, q4, kP, hkP, hkPi⟩ := Cond.selects_spec hsel
    have hcls : s.vm.findClass C = some cellB.cls := by rw [hclB]; exact hfc
    cases hcls.symm.trans q1
    cases (State.methodFound?_of_named hnamed hf.2.2.2.2.1).symm.trans q2
    cases hnamed.symm.trans q3
    have hselP : selectMethod e.platform s.vm cellB.cls mk = .method mk := by rw [Launch.admits_selectMethod X.admits]; exact q4
    have hstack : st = (st.take n).reverse.reverse ++ .ref a :: rest := by rw [List.reverse_reverse, ← hdrop, List.take_append_drop]
    obtain ⟨vm₁, X₁, hstep₁⟩ := X.invokevirtual hX.1 (zd_own hX) hlink hnamed hmethM hstM hkP hkPi hf.2.2.2.2.1 (a := a) (cell := cellB) hcell (fun z hz => by rw [hz] at hvmB; cases hvmB) hselP hmethM habM hkP hkPi (g := F0 m pc arr st) rfl (argsL := (st.take n).reverse) (rest := rest) (zd_cf_len hf (by simpa using hn) _ hsigM) hstack (by rw [hX.2.1]; exact hd)
    have hcore := zd_core (l := l) (y := y) (pc := pc) (arr := arr) (rest := rest) (as := Value.ref a :: (st.take n).reverse) hG hX hc (T := T.setVm vm₁) hR hL hA.1 X₁ hd hf.1 hf.2.1 hnamed has hf.2.2.1 hf.2.2.2.1 hst hM
    obtain ⟨t, a1, a2⟩ := zd_afterh (pc := pc) (arr := arr) (rest := rest) hh hown hall hG hN hX hA hK hcore
    exact ⟨t, hstep₁ _ fun acts => by rw [doInvoke_state]; exact a1, a2⟩
  · exact q.elim
end XG

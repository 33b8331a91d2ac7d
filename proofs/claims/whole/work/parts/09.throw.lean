/-! a throw: new, dup, the text, the constructor, athrow (launches without stack traces) -/
theorem zx_lays {C n d : String} {a0 args : Array Value} {s0 s : State} (h : (Cond.laysStatic C n d).before a0 s0 = true) (hW : s0.WarmedH s.vm) (hh : ∀ q, q < s0.heap.size → s.heap[q]? = s0.heap[q]?) : (Cond.laysStatic C n d).before args s = true := by
  obtain ⟨c, k, i, f, a, cell, h1, h2, h3, h4, h5, h6, h7, h8, h9⟩ := Cond.laysStatic_spec h
  obtain ⟨k', hi', he⟩ := State.fieldFound?_setVm hW.alike h2
  show (Cond.laysStatic C n d).holds args s none s [] = true
  exact Cond.laysStatic_of (by rw [hW.alike.findClass]; exact h1) hi' h3 (by rw [he]; exact h4) (by rw [hh a (Array.getElem?_eq_some_iff.mp h5).1]; exact h5) h6 h7 h8 (by rw [he]; exact h9)
theorem zx_ref1 {C n d : String} {v : Value} {A : Nat → Prop} {s : State} {args : Array Value} (h : va_Z C n d v A s s.heap) (hv : v.isRef = true) : (Cond.isRef (.static C n d)).before args s = true := by
  obtain ⟨cf, kf, fi, f, a, cell, h1, h2, h3, h4, h5, h6, h7, -⟩ := h
  have he : (Term.static C n d).eval args s none [] s = some v := by
    simp [Term.eval, State.fieldNamed?, h1, h2, h4, h5, h6, h7]
  simp only [Cond.before, Cond.holds, Cond.value, he]
  cases v <;> simp_all [Value.isRef]
theorem zx_ref {C n d : String} {a0 args : Array Value} {s0 s : State} (hl : (Cond.laysStatic C n d).before a0 s0 = true) (hi : (Cond.initialized C).before a0 s0 = true) (h : (Cond.isRef (.static C n d)).before a0 s0 = true) (hW : s0.WarmedH s.vm) (hh : ∀ q, q < s0.heap.size → s.heap[q]? = s0.heap[q]?) : (Cond.isRef (.static C n d)).before args s = true := by
  have h1 : va_Zq C n d (fun q => s0.heap.size ≤ q) s0 s0.heap := va_Zqof hl hi h (fun a ha hb => by omega)
  have h2 : va_Zq C n d (fun q => s0.heap.size ≤ q) s s.heap := va_Zq.moved hW.alike (h1.kept (fun a ha _ => hh a ha))
  rcases h2 with h2 | ⟨t, h2⟩
  · exact zx_ref1 h2 rfl
  · exact zx_ref1 h2 rfl
def zx_nm : List String := ["java/lang/RuntimeException", "java/lang/Exception"]
/-- the words of a throw of X, but the constructor's link -/
def zx_pre (X : String) : List Cond := Jvm.Bundle.throwableAtoms ++ Jvm.Bundle.throwableSAtoms ++ Jvm.Bundle.chainSAtoms X zx_nm
def zx_rest (X : String) : List Cond := zx_pre X ++ (Jvm.Bundle.ownAtoms "" 0 X zx_nm).drop ((zx_pre X).length + 1)
def zx_cast (w : Cond) : Bool := match w with
  | .castable _ _ => true
  | .declares _ => true
  | _ => false
def zx_ck (w : Cond) : Bool := decide (w ∈ zd_hw) || (decide (w ∈ lw_tbl) && ((w.onTables && w.keeps) || zx_cast w))
theorem zx_in {own : String} {ic : Nat} {X : String} {w : Cond} (h : w ∈ Jvm.Bundle.ownAtoms own ic X zx_nm) : w = .methodLink own ic (Jvm.Bundle.initS X) ∨ w ∈ zx_rest X := by
  unfold Jvm.Bundle.ownAtoms at h
  rcases List.mem_append.mp h with h | h
  · exact Or.inr (List.mem_append_left _ h)
  · rcases List.mem_cons.mp h with h | h
    · exact Or.inl h
    · refine Or.inr (List.mem_append_right _ ?_)
      unfold Jvm.Bundle.ownAtoms
      rw [show Jvm.Bundle.throwableAtoms ++ Jvm.Bundle.throwableSAtoms ++ Jvm.Bundle.chainSAtoms X zx_nm = zx_pre X from rfl, List.drop_append, show (zx_pre X).length + 1 - (zx_pre X).length = 1 by omega]
      exact List.mem_append_right _ h
/-- a frame seen from the heap as it is -/
theorem zx_rebase {p : Program} {l : Launch} {e : Env} {R : Room} {s : State} {m : MethodId} {args : Array Value} {below : List Frame} {meth : Method} {c : Code} {T : State} {locs : List Loc} {cells slots : Nat} (X : Stand p l e R s m args below meth c T locs cells slots) {R' : Room} (hf : R'.frames ≤ R.frames) (hl : R'.locals ≤ R.locals) (hc : cells + R'.cells ≤ R.cells) (hs : slots + R'.slots ≤ R.slots) :
    Stand p l e R' ((T.setVm s.vm).setFrames (.invoking m args :: below)) m args below meth c T [] 0 0 := by
  have htop : (T.setVm s.vm).topJava?.isSome := X.here.top
  have hF : ((T.setVm s.vm).setFrames (.invoking m args :: below)).frames = .invoking m args :: below := State.frames_setFrames _ (State.cur_lt_of_top htop)
  obtain ⟨g₀, hg0⟩ := Option.isSome_iff_exists.mp htop
  obtain ⟨r, hr⟩ := State.topJava?_eq_some.mp hg0
  have hl9 : e.platform.stackLimits (T.setVm s.vm).me = e.platform.stackLimits s.me := X.limits
  have hb9 : (T.setVm s.vm).me.stackBytes = s.me.stackBytes := X.bytes
  refine ⟨X.admits, X.cas, X.clock, hF, ?_, X.hears, X.method, X.code, X.here, X.tail, X.warmed, ?_, ?_, ?_⟩
  · have h := X.room
    have hU : ((T.setVm s.vm).setFrames (.invoking m args :: below)).localsInUse = s.localsInUse := by
      rw [State.localsInUse_invoking hF (meth := meth) (c := c) X.method X.code, State.localsInUse_invoking X.frames X.method X.code]
    simp only [State.hasRoom, Bool.and_eq_true, decide_eq_true_eq] at h ⊢
    obtain ⟨⟨⟨⟨h1, h2, h3, h4, h5, h6⟩, h7⟩, h8⟩, h9⟩ := h
    rw [X.frames, List.length_cons] at h2 h3
    have q1 := X.heapSize
    have q2 := X.used
    simp only [hF, hU, List.length_cons, State.stackLimits_setFrames, State.stackBytes_setFrames, hl9, hb9]
    refine ⟨⟨⟨⟨by omega, by omega, by omega, by omega, by omega, h6⟩, ?_⟩, ?_⟩, X.book⟩
    · show T.heap.size + R'.cells ≤ e.platform.maxCells
      omega
    · show T.slotsUsed + R'.slots ≤ e.platform.maxSlots
      omega
  · rw [State.stackLimits_setFrames]; rfl
  · rw [State.stackBytes_setFrames]; rfl
  · refine ⟨?_, Nat.le_refl _, Nat.le_refl _, ?_, ?_, fun a c9 h9 => ⟨c9, h9, rfl, rfl, fun _ _ => rfl⟩⟩
    · obtain ⟨t, ht, -⟩ := State.frames_cons hr
      show T.setVm s.vm = { ((T.setVm s.vm).setFrames (.invoking m args :: below)).setFrames (T.setVm s.vm).frames with heap := T.heap, slotsUsed := T.slotsUsed }
      rw [State.setFrames_setFrames, State.setFrames_self ht]
      rfl
    · show T.slotsUsed = T.slotsUsed + ((T.heap.toList.drop T.heap.size).map (·.slots.size)).sum
      rw [List.drop_eq_nil_of_le (Nat.le_of_eq Array.length_toList)]
      rfl
    · show ((T.heap.toList.drop T.heap.size).map (·.slots.size)).sum ≤ 0
      rw [List.drop_eq_nil_of_le (Nat.le_of_eq Array.length_toList)]
      exact Nat.le_refl _
theorem zx_frame {s U : State} {k n : Nat} (h : s.sameButNew ({ U with vm := s.vm } : State) [] k n) : s.heap.size ≤ U.heap.size ∧ U.heap.size ≤ s.heap.size + k ∧ ∀ q : Nat, q < s.heap.size → U.heap[q]? = s.heap[q]? := by
  obtain ⟨-, h2, h3, -, -, h6⟩ := h
  refine ⟨h2, h3, fun q hq => ?_⟩
  obtain ⟨c9, e1, e2, e3, e4⟩ := h6 q _ (Array.getElem?_eq_getElem hq)
  have hs : c9.slots = (s.heap[q]).slots := Array.ext_getElem? fun i => e4 i (fun hm => by cases hm)
  have h9 : c9 = s.heap[q] := by
    rw [hs] at e2
    exact e2
  have e5 : U.heap[q]? = some c9 := e1
  rw [e5, h9, Array.getElem?_eq_getElem hq]
/-- the static facts of a throw in a class -/
def zx_F (own : String) (ik is ic : Nat) (X text : String) : Prop := Cond.classLink own ik X ∈ lw_tbl ∧ Cond.initialized X ∈ lw_tbl ∧ Cond.stringRef own is text ∈ lw_tbl ∧ Cond.methodLink own ic (Jvm.Bundle.initS X) ∈ lw_tbl
/-- .. of the exception's class -/
def zx_E (ci : Nat) (X : String) : Prop := Jvm.Bundle.fit X = true ∧ (∀ n ∈ zx_nm, Jvm.Bundle.fit n = true) ∧ ((zx_rest X).all zx_ck = true) ∧ Cond.initialized "java/lang/Throwable" ∈ lw_tbl ∧ (∃ T : u_T, zd_cl[ci]? = some (X, T, 0))
section ZX
variable {l : Launch} {B : zd_B} {y : zd_Y} {pc : Nat}
def oc_throw (B : zd_B) (ci : Nat) : zd_S := fun _ _ st h Q => ((st.map fun v => v.category).sum ≤ 8 ∧ h.1 + 1 ≤ zd_CB ∧ h.2.1 + 6 ≤ zd_SB) ∧ Q (.inr (zd_b0 B + h.1, ci)) (zd_push h (zd_b0 B + h.1) (.inl (ci, [])) 6) ∧ True
theorem zx_words (hG : zd_G B) {p : Program} {R : Room} {s s' : State} {m : MethodId} {meth : Method} {c : Code} {c0 n0 : Nat} (hX : zd_X B y p R s m meth c c0 n0) (hvm : s'.vm = s.vm) (hh : ∀ q, q < zd_b0 B → s'.heap[q]? = (zd_s0 B).heap[q]?) {X : String} {ci ik is ic : Nat} {tx : String} (hF : zx_F (zd_yn y).cls ik is ic X tx) (hE : zx_E ci X) (args : Array Value) : ∀ w ∈ Jvm.Bundle.ownAtoms (zd_yn y).cls ic X zx_nm, w.before args s' = true := by
  have hW : (zd_s0 B).WarmedH s'.vm := by rw [hvm]; exact hX.2.2.2.2.2.2.2.1
  have hw : ∀ w, w ∈ lw_tbl → ((w.onTables && w.keeps) = true ∨ zx_cast w = true) → w.before args s' = true := by
    intro w h1 h2
    rcases h2 with h2 | h2
    · exact word_at hW (Or.inl h2) (hG.1 w h1)
    · unfold zx_cast at h2
      split at h2
      · exact va_Nw.use rfl (va_Nw.warmC hW (va_Nw.of rfl (hG.1 _ h1)))
      · exact va_Nw.use rfl (va_Nw.warmD hW (va_Nw.of rfl (hG.1 _ h1)))
      · cases h2
  have hini := hG.1 _ hE.2.2.2.1
  have hhw : ∀ w, w ∈ zd_hw → w.before args s' = true := by
    intro w h1
    have g1 := hG.2.2.2.2.2.2 (.laysStatic "java/lang/Throwable" "UNASSIGNED_STACK" "[Ljava/lang/StackTraceElement;") (by simp [zd_hw])
    have g2 := hG.2.2.2.2.2.2 (.laysStatic "java/lang/Throwable" "SUPPRESSED_SENTINEL" "Ljava/util/List;") (by simp [zd_hw])
    have g3 := hG.2.2.2.2.2.2 (.isRef (.static "java/lang/Throwable" "UNASSIGNED_STACK" "[Ljava/lang/StackTraceElement;")) (by simp [zd_hw])
    have g4 := hG.2.2.2.2.2.2 (.isRef (.static "java/lang/Throwable" "SUPPRESSED_SENTINEL" "Ljava/util/List;")) (by simp [zd_hw])
    unfold zd_hw at h1
    simp only [List.mem_cons, List.not_mem_nil, or_false] at h1
    rcases h1 with rfl | rfl | rfl | rfl
    · exact zx_ref g1 hini g3 hW hh
    · exact zx_ref g2 hini g4 hW hh
    · exact zx_lays g1 hW hh
    · exact zx_lays g2 hW hh
  intro w hww
  rcases zx_in hww with h | h
  · rw [h]
    exact hw _ hF.2.2.2 (Or.inl (by first | rfl | simp [Cond.onTables, Cond.keeps, Cond.steady]))
  · have h2 := List.all_eq_true.mp hE.2.2.1 w h
    unfold zx_ck at h2
    rw [Bool.or_eq_true, Bool.and_eq_true, Bool.or_eq_true, decide_eq_true_eq, decide_eq_true_eq] at h2
    rcases h2 with h2 | ⟨h2, h3⟩
    · exact hhw w h2
    · exact hw w h2 h3
theorem ok_throw (hG : zd_G B) (hl : l.stackTraces = false) {ci ik is ic : Nat} {X tx : String} (hE : zx_E ci X) (hF : zx_F (zd_yn y).cls ik is ic X tx) (hh : zd_yh y = []) (hfr : 6 ≤ zd_yf y) (hwo : 90 ≤ zd_yw y) (d0 : decode (zd_yb y) pc = .ok (.new ik, 3)) (d3 : decode (zd_yb y) (pc + 3) = .ok (.dup, 1)) (d4 : decode (zd_yb y) (pc + 4) = .ok (.ldc is, 2)) (d6 : decode (zd_yb y) (pc + 6) = .ok (.invokespecial ic, 3)) (d9 : decode (zd_yb y) (pc + 9) = .ok (.athrow, 1)) : zd_ok l B y pc (oc_throw B ci) := by
  intro K ls st h Q hK q
  obtain ⟨⟨qs, q1, q2⟩, hq, -⟩ := q
  intro p e R s m args below meth c c0 n0 hX hc H locs arr hR hL hA T hT X1
  subst hT
  have b0 := hX.2.2.2.2.2.2.2.2.2.1
  have b00 := hX.2.2.2.2.2.2.2.2.2.2.1
  have b1 := hX.2.2.2.2.2.2.2.2.2.2.2.1
  have b2 := hX.2.2.2.2.2.2.2.2.2.2.2.2.1
  have hexec := hX.1
  have hb := hX.2.1
  have htr : e.platform.stackTraces = false := (show e.platform.stackTraces = l.stackTraces by rw [X1.admits.platform]).trans hl
  have Y := zx_rebase X1 (R' := { frames := R.frames, locals := R.locals, cells := 1, slots := 6 }) (Nat.le_refl _) (Nat.le_refl _) (by show h.1 - c0 + 1 ≤ R.cells; omega) (by show h.2.1 - n0 + 6 ≤ R.slots; omega)
  obtain ⟨s', hs'⟩ : ∃ z, z = (T.setVm s.vm).setFrames (.invoking m args :: below) := ⟨_, rfl⟩
  rw [← hs'] at Y
  have hvm : s'.vm = s.vm := by rw [hs']; rfl
  have hhp : s'.heap = T.heap := by rw [hs']; rfl
  have hW0 : s.WarmedH s'.vm := by rw [hvm]; exact State.WarmedH.refl s
  have hws := zx_words hG hX hvm (fun q hq => by rw [hhp]; exact hR.2.2 q hq) hF hE args
  have hWs' : (zd_s0 B).WarmedH s'.vm := by rw [hvm]; exact hX.2.2.2.2.2.2.2.1
  have hk' : (Cond.classLink (zd_yn y).cls ik X).before args s' = true := word_at hWs' (Or.inl (by first | rfl | simp [Cond.onTables, Cond.keeps, Cond.steady])) (hG.1 _ hF.1)
  have hini' : (Cond.initialized X).before args s' = true := word_at hWs' (Or.inl (by first | rfl | simp [Cond.onTables, Cond.keeps, Cond.steady])) (hG.1 _ hF.2.1)
  obtain ⟨sa, hstr⟩ := hG.2.2.2.2.2.1 _ _ _ hF.2.2.1
  have hstr' : vk_R (zd_yn y).cls is tx sa s' := vk_R.warm hWs' hstr
  have hown' : s'.vm.findClass (zd_yn y).cls = some m.cls := by rw [hvm]; exact zd_own hX
  have hins : (Cond.instantiable X 6).before args s' = true := hws _ (by simp [Jvm.Bundle.ownAtoms])
  obtain ⟨vm₁, cX, kX, hfX, hkX, -, -, X₁, st1⟩ := Y.newCold hexec (own := (zd_yn y).cls) (C := X) (index := ik) (n := 6) hown' hk' hins hini'
    (g := F0 m pc arr st) rfl (by rw [hb]; exact d0) (Nat.le_refl _) (Nat.le_refl _)
  generalize hT1 : (T.setVm vm₁).pushCell { cls := cX, slots := kX.instanceTypes.map defaultValue, vm := .none } = T1 at X₁ st1
  have hcat : (Value.ref T.heap.size).category = 1 := rfl
  have hcellA : T1.heap[T.heap.size]? = some (freshCell cX kX) := by rw [← hT1]; exact State.heap_pushCell_size _ _
  have d3' : decode c.code (pc + 3) = .ok (.dup, 1) := by rw [hb]; exact d3
  have d4' : decode c.code (pc + 4) = .ok (.ldc is, 2) := by rw [hb]; exact d4
  obtain ⟨U, hsteps, hrun, hend, hW, hsame, ce, hce, hO⟩ := X₁.ctorThrowS hexec htr (own := (zd_yn y).cls) (cls := X) (names := zx_nm) (ic := ic) hown' hE.1 hE.2.1 hws (fun x hx => nomatch hx) hfX hkX hcellA (by rw [hhp]; exact Nat.le_refl _) (msg := .ref sa) rfl
    (g := { method := m, pc := pc + 6, locals := arr, stack := .ref sa :: .ref T.heap.size :: .ref T.heap.size :: st, locked := none }) rfl (hA.1.trans hX.2.2.1.symm) rfl rfl (rest := st) rfl
    (by rw [hb]; exact d6) (by rw [hb]; exact d9) (zd_nohand hX hh _) (by show 2 + 3 < R.frames; omega) (by show 2 * 0 + _ + (13 * (2 + 1) + 42) ≤ R.locals; simp only [List.map_cons, List.sum_cons, hcat]; omega) hX.2.2.2.2.1
  obtain ⟨f1, f2, f3⟩ := zx_frame hsame
  rw [hhp] at f1 f2 f3
  have hWs : s.WarmedH U.vm := State.WarmedH.trans hW0 hW
  have hcl : s.vm.findClass X = some ce.cls := by
    have h9 := hO.cls
    rw [hvm] at h9
    exact h9
  have hall : s.sameButNew ({ U with vm := s.vm } : State) locs (h.1 - c0 + 1) (h.2.1 - n0 + 6) := by
    subst hs'
    obtain ⟨e1, e2⟩ := hsame
    rw [State.setFrames_setFrames] at e1
    have h2 : (T.setVm s.vm).sameButNew ({ U with vm := s.vm } : State) [] (0 + 1) (0 + 6) := ⟨e1, e2⟩
    have h3 := X1.same.trans h2
    rw [List.append_nil] at h3
    exact h3
  have hlt : T.heap.size < U.heap.size := (Array.getElem?_eq_some_iff.mp hce).1
  obtain ⟨Tt, hcl0⟩ := hE.2.2.2.2
  have hfc : s.vm.findClass X = some (zd_dC B ci) := ((zd_kn hG hX).1 ci _ hcl0).2.1
  have hT0 : T.heap.size = zd_b0 B + h.1 := hR.1
  have hR' : zd_R B (zd_push h (zd_b0 B + h.1) (.inl (ci, [])) 6) U.heap := by
    refine zd_R.push hR hT0 ⟨_, hcl0, ce, by rw [← hT0]; exact hce, Option.some.inj (hcl.symm.trans hfc), hO.vm, fun k hk => absurd hk (Nat.not_lt_zero k)⟩ (by omega) (fun q hq => f3 q (by omega))
  refine ⟨U, ?_, .threw T.heap.size, .inr (zd_b0 B + h.1, ci), _, hrun, hend, by show Outcome.threw T.heap.size = Outcome.threw (zd_b0 B + h.1); rw [hT0], hq, ?_, ⟨by show c0 ≤ h.1 + 1; omega, by show n0 ≤ h.2.1 + 6; omega, q1, q2⟩, hR', hWs, locs, hL, ?_⟩
  · refine st1 _ ?_
    show Steps p.tables e below (T1.setTop { method := m, pc := pc + 3, locals := arr, stack := .ref T.heap.size :: st, locked := none }) _
    jvm_step X₁.here [X₁.here.top, hexec, d3', Value.category]
    exact X₁.ldcString hexec (own := (zd_yn y).cls) (text := tx) (index := is) (a := sa) hown' hstr'.1 hstr'.2
      (g := { method := m, pc := pc + 4, locals := arr, stack := .ref T.heap.size :: .ref T.heap.size :: st, locked := none }) rfl d4' _ hsteps
  · intro z hz
    cases hz
    refine ⟨[], ⟨by show zd_b0 B ≤ zd_b0 B + h.1; omega, by show zd_b0 B + h.1 < zd_b0 B + (h.1 + 1); omega⟩, ?_⟩
    show (if zd_b0 B + h.1 = zd_b0 B + h.1 then _ else _) = _
    rw [if_pos rfl]
  · show s.sameButNew _ locs (h.1 + 1 - c0) (h.2.1 + 6 - n0)
    rw [show h.1 + 1 - c0 = h.1 - c0 + 1 by omega, show h.2.1 + 6 - n0 = h.2.1 - n0 + 6 by omega]
    exact hall
theorem ok_throwW (hG : zd_G B) (hl : l.stackTraces = false) {ci ik is ic : Nat} {X tx : String} (hE : zx_E ci X) (hF : zx_F (zd_yn y).cls ik is ic X tx) (hh : zd_yh y = []) (hfr : 6 ≤ zd_yf y) (hwo : 90 ≤ zd_yw y) (d0 : decode (zd_yb y) pc = .ok (.new ik, 3)) (d3 : decode (zd_yb y) (pc + 3) = .ok (.dup, 1)) (d4 : decode (zd_yb y) (pc + 4) = .ok (.ldc_w is, 3)) (d6 : decode (zd_yb y) (pc + 7) = .ok (.invokespecial ic, 3)) (d9 : decode (zd_yb y) (pc + 10) = .ok (.athrow, 1)) : zd_ok l B y pc (oc_throw B ci) := by
  intro K ls st h Q hK q
  obtain ⟨⟨qs, q1, q2⟩, hq, -⟩ := q
  intro p e R s m args below meth c c0 n0 hX hc H locs arr hR hL hA T hT X1
  subst hT
  have b0 := hX.2.2.2.2.2.2.2.2.2.1
  have b00 := hX.2.2.2.2.2.2.2.2.2.2.1
  have b1 := hX.2.2.2.2.2.2.2.2.2.2.2.1
  have b2 := hX.2.2.2.2.2.2.2.2.2.2.2.2.1
  have hexec := hX.1
  have hb := hX.2.1
  have htr : e.platform.stackTraces = false := (show e.platform.stackTraces = l.stackTraces by rw [X1.admits.platform]).trans hl
  have Y := zx_rebase X1 (R' := { frames := R.frames, locals := R.locals, cells := 1, slots := 6 }) (Nat.le_refl _) (Nat.le_refl _) (by show h.1 - c0 + 1 ≤ R.cells; omega) (by show h.2.1 - n0 + 6 ≤ R.slots; omega)
  obtain ⟨s', hs'⟩ : ∃ z, z = (T.setVm s.vm).setFrames (.invoking m args :: below) := ⟨_, rfl⟩
  rw [← hs'] at Y
  have hvm : s'.vm = s.vm := by rw [hs']; rfl
  have hhp : s'.heap = T.heap := by rw [hs']; rfl
  have hW0 : s.WarmedH s'.vm := by rw [hvm]; exact State.WarmedH.refl s
  have hws := zx_words hG hX hvm (fun q hq => by rw [hhp]; exact hR.2.2 q hq) hF hE args
  have hWs' : (zd_s0 B).WarmedH s'.vm := by rw [hvm]; exact hX.2.2.2.2.2.2.2.1
  have hk' : (Cond.classLink (zd_yn y).cls ik X).before args s' = true := word_at hWs' (Or.inl (by first | rfl | simp [Cond.onTables, Cond.keeps, Cond.steady])) (hG.1 _ hF.1)
  have hini' : (Cond.initialized X).before args s' = true := word_at hWs' (Or.inl (by first | rfl | simp [Cond.onTables, Cond.keeps, Cond.steady])) (hG.1 _ hF.2.1)
  obtain ⟨sa, hstr⟩ := hG.2.2.2.2.2.1 _ _ _ hF.2.2.1
  have hstr' : vk_R (zd_yn y).cls is tx sa s' := vk_R.warm hWs' hstr
  have hown' : s'.vm.findClass (zd_yn y).cls = some m.cls := by rw [hvm]; exact zd_own hX
  have hins : (Cond.instantiable X 6).before args s' = true := hws _ (by simp [Jvm.Bundle.ownAtoms])
  obtain ⟨vm₁, cX, kX, hfX, hkX, -, -, X₁, st1⟩ := Y.newCold hexec (own := (zd_yn y).cls) (C := X) (index := ik) (n := 6) hown' hk' hins hini'
    (g := F0 m pc arr st) rfl (by rw [hb]; exact d0) (Nat.le_refl _) (Nat.le_refl _)
  generalize hT1 : (T.setVm vm₁).pushCell { cls := cX, slots := kX.instanceTypes.map defaultValue, vm := .none } = T1 at X₁ st1
  have hcat : (Value.ref T.heap.size).category = 1 := rfl
  have hcellA : T1.heap[T.heap.size]? = some (freshCell cX kX) := by rw [← hT1]; exact State.heap_pushCell_size _ _
  have d3' : decode c.code (pc + 3) = .ok (.dup, 1) := by rw [hb]; exact d3
  have d4' : decode c.code (pc + 4) = .ok (.ldc_w is, 3) := by rw [hb]; exact d4
  obtain ⟨U, hsteps, hrun, hend, hW, hsame, ce, hce, hO⟩ := X₁.ctorThrowS hexec htr (own := (zd_yn y).cls) (cls := X) (names := zx_nm) (ic := ic) hown' hE.1 hE.2.1 hws (fun x hx => nomatch hx) hfX hkX hcellA (by rw [hhp]; exact Nat.le_refl _) (msg := .ref sa) rfl
    (g := { method := m, pc := pc + 7, locals := arr, stack := .ref sa :: .ref T.heap.size :: .ref T.heap.size :: st, locked := none }) rfl (hA.1.trans hX.2.2.1.symm) rfl rfl (rest := st) rfl
    (by rw [hb]; exact d6) (by rw [hb]; exact d9) (zd_nohand hX hh _) (by show 2 + 3 < R.frames; omega) (by show 2 * 0 + _ + (13 * (2 + 1) + 42) ≤ R.locals; simp only [List.map_cons, List.sum_cons, hcat]; omega) hX.2.2.2.2.1
  obtain ⟨f1, f2, f3⟩ := zx_frame hsame
  rw [hhp] at f1 f2 f3
  have hWs : s.WarmedH U.vm := State.WarmedH.trans hW0 hW
  have hcl : s.vm.findClass X = some ce.cls := by
    have h9 := hO.cls
    rw [hvm] at h9
    exact h9
  have hall : s.sameButNew ({ U with vm := s.vm } : State) locs (h.1 - c0 + 1) (h.2.1 - n0 + 6) := by
    subst hs'
    obtain ⟨e1, e2⟩ := hsame
    rw [State.setFrames_setFrames] at e1
    have h2 : (T.setVm s.vm).sameButNew ({ U with vm := s.vm } : State) [] (0 + 1) (0 + 6) := ⟨e1, e2⟩
    have h3 := X1.same.trans h2
    rw [List.append_nil] at h3
    exact h3
  have hlt : T.heap.size < U.heap.size := (Array.getElem?_eq_some_iff.mp hce).1
  obtain ⟨Tt, hcl0⟩ := hE.2.2.2.2
  have hfc : s.vm.findClass X = some (zd_dC B ci) := ((zd_kn hG hX).1 ci _ hcl0).2.1
  have hT0 : T.heap.size = zd_b0 B + h.1 := hR.1
  have hR' : zd_R B (zd_push h (zd_b0 B + h.1) (.inl (ci, [])) 6) U.heap := by
    refine zd_R.push hR hT0 ⟨_, hcl0, ce, by rw [← hT0]; exact hce, Option.some.inj (hcl.symm.trans hfc), hO.vm, fun k hk => absurd hk (Nat.not_lt_zero k)⟩ (by omega) (fun q hq => f3 q (by omega))
  refine ⟨U, ?_, .threw T.heap.size, .inr (zd_b0 B + h.1, ci), _, hrun, hend, by show Outcome.threw T.heap.size = Outcome.threw (zd_b0 B + h.1); rw [hT0], hq, ?_, ⟨by show c0 ≤ h.1 + 1; omega, by show n0 ≤ h.2.1 + 6; omega, q1, q2⟩, hR', hWs, locs, hL, ?_⟩
  · refine st1 _ ?_
    show Steps p.tables e below (T1.setTop { method := m, pc := pc + 3, locals := arr, stack := .ref T.heap.size :: st, locked := none }) _
    jvm_step X₁.here [X₁.here.top, hexec, d3', Value.category]
    exact X₁.ldcStringW hexec (own := (zd_yn y).cls) (text := tx) (index := is) (a := sa) hown' hstr'.1 hstr'.2
      (g := { method := m, pc := pc + 4, locals := arr, stack := .ref T.heap.size :: .ref T.heap.size :: st, locked := none }) rfl d4' _ hsteps
  · intro z hz
    cases hz
    refine ⟨[], ⟨by show zd_b0 B ≤ zd_b0 B + h.1; omega, by show zd_b0 B + h.1 < zd_b0 B + (h.1 + 1); omega⟩, ?_⟩
    show (if zd_b0 B + h.1 = zd_b0 B + h.1 then _ else _) = _
    rw [if_pos rfl]
  · show s.sameButNew _ locs (h.1 + 1 - c0) (h.2.1 + 6 - n0)
    rw [show h.1 + 1 - c0 = h.1 - c0 + 1 by omega, show h.2.1 + 6 - n0 = h.2.1 - n0 + 6 by omega]
    exact hall
end ZX

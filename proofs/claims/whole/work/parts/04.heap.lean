/-! the heap's instructions -/
def zd_tens : Nat → Int32 := fun i => nI (10 ^ i)
/-- the words on the heap that a throw needs -/
def zd_hw : List Cond := [.isRef (.static "java/lang/Throwable" "UNASSIGNED_STACK" "[Ljava/lang/StackTraceElement;"), .isRef (.static "java/lang/Throwable" "SUPPRESSED_SENTINEL" "Ljava/util/List;"), .laysStatic "java/lang/Throwable" "UNASSIGNED_STACK" "[Ljava/lang/StackTraceElement;", .laysStatic "java/lang/Throwable" "SUPPRESSED_SENTINEL" "Ljava/util/List;"]
/-- what is given at the start -/
def zd_G (B : zd_B) : Prop := (∀ w ∈ lw_tbl, w.before (zd_ar B) (zd_s0 B) = true) ∧ (∀ (ci : Nat) (q : vw_C), zd_cl[ci]? = some q → u_Kn (zd_s0 B) q.1 q.2.1 q.2.2 (zd_dC B ci) (zd_dI B ci)) ∧
  (∀ (k : Nat) (ty : FieldType), zd_ty[k]? = some ty → ArrOfT (zd_s0 B) (zd_aK B k) ty ∧ va_RA (zd_s0 B) (zd_aK B k) ty) ∧
  va_Z "DecimalDesk" "TENS" "[I" (.ref (zd_tT B)) (fun q => zd_b0 B ≤ q) (zd_s0 B) (zd_s0 B).heap ∧ zd_Ol B (zd_tT B) 10 zd_tens ∧
  (∀ (own : String) (k : Nat) (tx : String), Cond.stringRef own k tx ∈ lw_tbl → ∃ a, vk_R own k tx a (zd_s0 B)) ∧
  (∀ w ∈ zd_hw, w.before (zd_ar B) (zd_s0 B) = true)
theorem zd_at.kept {B : zd_B} {H H1 : Heap} {a : Nat} {c : zd_C} (h : zd_at B H a c) (e : H1[a]? = H[a]?) : zd_at B H1 a c := by
  unfold zd_at at h ⊢
  split at h
  · obtain ⟨r, h1, h2⟩ := h
    exact ⟨r, h1, h2.kept e⟩
  · rw [e]; exact h
  · rw [e]; exact h
  · rw [e]; exact h
theorem zd_R.set {B : zd_B} {h : zd_H} {H H1 : Heap} {a : Nat} {c : zd_C} (hR : zd_R B h H) (ha : zd_lv B h a) (hc : zd_at B H1 a c) (hz : H1.size = H.size) (ho : ∀ q, q ≠ a → H1[q]? = H[q]?) : zd_R B (zd_set h a c) H1 := by
  refine ⟨hz.trans hR.1, fun q hq => ?_, fun q hq => ?_⟩
  · show zd_at B H1 q (if q = a then c else h.2.2 q)
    by_cases e : q = a
    · rw [if_pos e, e]; exact hc
    · rw [if_neg e]; exact (hR.2.1 q hq).kept (ho q e)
  · rw [ho q (fun e => by have := ha.1; omega)]
    exact hR.2.2 q hq
theorem zd_R.push {B : zd_B} {h : zd_H} {H H1 : Heap} {a n : Nat} {c : zd_C} (hR : zd_R B h H) (ha : H.size = a) (hc : zd_at B H1 a c) (hz : H1.size = a + 1) (ho : ∀ q, q < a → H1[q]? = H[q]?) : zd_R B (zd_push h a c n) H1 := by
  have e0 : a = zd_b0 B + h.1 := ha.symm.trans hR.1
  refine ⟨by show H1.size = zd_b0 B + (h.1 + 1); omega, fun q hq => ?_, fun q hq => ?_⟩
  · have h1 : zd_b0 B ≤ q := hq.1
    have h2 : q < zd_b0 B + (h.1 + 1) := hq.2
    show zd_at B H1 q (if q = a then c else h.2.2 q)
    by_cases e : q = a
    · rw [if_pos e, e]; exact hc
    · rw [if_neg e]; exact (hR.2.1 q ⟨h1, by omega⟩).kept (ho q (by omega))
  · rw [ho q (by omega)]
    exact hR.2.2 q hq
section ZH
variable {l : Launch} {B : zd_B} {y : zd_Y} {pc : Nat} {p : Program} {R : Room} {s : State} {m : MethodId} {meth : Method} {c : Code} {c0 n0 : Nat}
theorem zd_wd (hG : zd_G B) (hX : zd_X B y p R s m meth c c0 n0) {w : Cond} (hw : w ∈ lw_tbl) (hg : (w.onTables && w.keeps) = true ∨ ∃ ty, w = .arrayClass ty) (args : Array Value) : w.before args s = true := word_at hX.2.2.2.2.2.2.2.1 hg (hG.1 w hw)
theorem zd_own (hX : zd_X B y p R s m meth c c0 n0) : s.vm.findClass (zd_yn y).cls = some m.cls := findClass_of_methodNamed hX.2.2.2.2.2.1
theorem zd_kn (hG : zd_G B) (hX : zd_X B y p R s m meth c c0 n0) : va_K (zd_dC B, zd_dI B) zd_cl [] s := ⟨fun ci q hq => u_Kn_moved hX.2.2.2.2.2.2.2.1.alike (hG.2.1 ci q hq), fun k q h => by simp at h⟩
theorem zd_R.ob {h : zd_H} {H : Heap} {a ci : Nat} {fs : List Value} (hR : zd_R B h H) (ho : zd_Ob B h a ci fs) : va_P (zd_dC B, zd_dI B) zd_cl [(a, .inr (ci, fs))] H := by
  intro k q hq
  cases k with
  | zero =>
    cases hq
    have := hR.2.1 a ho.1
    rw [ho.2] at this
    exact this
  | succ k => simp at hq
def zd_lay (C : String) (T : u_T) (N : Nat) : Prop := ∀ w ∈ u_ws C T N, w ∈ lw_tbl ∧ (w.onTables && w.keeps) = true
def oc_getf (B : zd_B) (ci k nx : Nat) : zd_S := fun K ls st h _ => match st with
  | .ref a :: r => ∃ fs, zd_Ob B h a ci fs ∧ (match fs[k]? with
    | some v => K nx ls (v :: r) h
    | none => False)
  | _ => False
theorem ok_getf (hG : zd_G B) {C : String} {T : u_T} {N ci k idx : Nat} (hcl : zd_cl[ci]? = some (C, T, N)) (hlay : zd_lay C T N) (hk : k < N) (hl : Cond.fieldLink (zd_yn y).cls idx (T k).1 (T k).2.1 (T k).2.2.1 ∈ lw_tbl) (hd : decode (zd_yb y) pc = .ok (.getfield idx, 3)) : zd_ok l B y pc (oc_getf B ci k (pc + 3)) := by
  intro K ls st h Q hK q
  unfold oc_getf at q
  split at q
  · rename_i a r
    obtain ⟨fs, ho, q⟩ := q
    split at q
    · rename_i v hv
      intro p e R s m args below meth c c0 n0 hX hc H locs arr hR hL hA
      exact va_get (D := (zd_dC B, zd_dI B)) (cl := zd_cl) (ws := [(a, .inr (ci, fs))]) (tys := []) (own := (zd_yn y).cls) (ref := (T k).1) (Ts := u_ws C T N) hX.1 hX.2.1 (fun w hw => zd_wd hG hX (hlay w hw).1 (Or.inl (hlay w hw).2) args) (fun w hw => hw) (zd_own hX) (zd_kn hG hX) (hR.ob ho) 0 rfl hcl k hk
        (zd_wd hG hX hl (Or.inl (by first | rfl | simp [Cond.onTables, Cond.keeps, Cond.steady])) args) (fun x hx => hx) hv hd (hK _ _ _ _ q p e R s m args below meth c c0 n0 hX hc H locs arr hR hL hA)
    · exact q.elim
  · exact q.elim
def zd_nest (own : String) (idx : Nat) (r n d : String) : Prop := ∃ host, Cond.fieldLinkNest own idx r n d host ∈ lw_tbl
theorem ok_getfN (hG : zd_G B) {C : String} {T : u_T} {N ci k idx : Nat} (hcl : zd_cl[ci]? = some (C, T, N)) (hlay : zd_lay C T N) (hk : k < N) {host : String} (hl : Cond.fieldLinkNest (zd_yn y).cls idx (T k).1 (T k).2.1 (T k).2.2.1 host ∈ lw_tbl) (hd : decode (zd_yb y) pc = .ok (.getfield idx, 3)) : zd_ok l B y pc (oc_getf B ci k (pc + 3)) := by
  intro K ls st h Q hK q
  unfold oc_getf at q
  split at q
  · rename_i a r
    obtain ⟨fs, ho, q⟩ := q
    split at q
    · rename_i v hv
      intro p e R s m args below meth c c0 n0 hX hc H locs arr hR hL hA
      exact va_getN (D := (zd_dC B, zd_dI B)) (cl := zd_cl) (ws := [(a, .inr (ci, fs))]) (tys := []) (own := (zd_yn y).cls) (ref := (T k).1) (host := host) (Ts := u_ws C T N) hX.1 hX.2.1 (fun w hw => zd_wd hG hX (hlay w hw).1 (Or.inl (hlay w hw).2) args) (fun w hw => hw) (zd_own hX) (zd_kn hG hX) (hR.ob ho) 0 rfl hcl k hk
        (va_Nw.use rfl (va_Nw.warmF hX.2.2.2.2.2.2.2.1 (va_Nw.of rfl (hG.1 _ hl)))) (fun x hx => hx) hv hd (hK _ _ _ _ q p e R s m args below meth c c0 n0 hX hc H locs arr hR hL hA)
    · exact q.elim
  · exact q.elim
/-- what a class's table must be for a store -/
def zd_tab (T : u_T) (ty : Nat → FieldType) (N : Nat) : Prop := (∀ k, k < N → parseFieldDescriptor (T k).2.2.1 = some (ty k)) ∧ ∀ a, a < N → ∀ b, b < N → a ≠ b → (T a).2.1 ≠ (T b).2.1
def oc_putf (B : zd_B) (ty : FieldType) (ci k nx : Nat) : zd_S := fun K ls st h _ => match st with
  | v :: .ref a :: r => ∃ fs, zd_Ob B h a ci fs ∧ k < fs.length ∧ (narrow ty v = v ∧ fits ty v = true) ∧ K nx ls r (zd_set h a (.inl (ci, fs.set k v)))
  | _ => False
theorem ok_putf (hG : zd_G B) {C : String} {T : u_T} {ty : Nat → FieldType} {N ci k idx : Nat} (hcl : zd_cl[ci]? = some (C, T, N)) (hlay : zd_lay C T N) (htab : zd_tab T ty N) (hk : k < N) (hl : Cond.fieldLink (zd_yn y).cls idx (T k).1 (T k).2.1 (T k).2.2.1 ∈ lw_tbl) (hfin : (T k).2.2.2 = false) (hd : decode (zd_yb y) pc = .ok (.putfield idx, 3)) : zd_ok l B y pc (oc_putf B (ty k) ci k (pc + 3)) := by
  intro K ls st h Q hK q
  unfold oc_putf at q
  split at q
  · rename_i v a r
    obtain ⟨fs, ho, hlen, ⟨hn, hfit⟩, q⟩ := q
    intro p e R s m args below meth c c0 n0 hX hc H locs arr hR hL hA
    have hts : ∀ w ∈ u_ws C T N, w.before args s = true := fun w hw => zd_wd hG hX (hlay w hw).1 (Or.inl (hlay w hw).2) args
    have hKn := zd_kn hG hX
    have hap := va_apart (own := (zd_yn y).cls) (args := args) hts (fun w hw => hw) ty htab.1 htab.2 hKn hcl
    obtain ⟨rr, h1, cell, q1, q2, q3, q4⟩ := hR.ob ho 0 _ rfl
    have hr : rr = (C, T, N) := Option.some.inj (h1.symm.trans hcl)
    subst hr
    obtain ⟨hS, hfc, kC, hkC, hkind⟩ := hKn.1 ci _ hcl
    obtain ⟨cf, kf, fi, f, hi, hsl⟩ := hS k hk
    have hlay' := hts _ (u_in_lay hk)
    unfold u_lay at hlay'
    rw [if_neg (by rw [hfin]; decide)] at hlay'
    have hst := (u_facts hfc hkC (u_lays hts (fun w hw => hw) hk) hi).1
    have h6 := u_store hfc hkC hkind hlay' hi (htab.1 k hk) hn hfit
    refine W.putK hX.1 hX.2.1 (f := f) ⟨zd_own hX, zd_wd hG hX hl (Or.inl (by first | rfl | simp [Cond.onTables, Cond.keeps, Cond.steady])) args, ⟨_, _, _, hi⟩, hst⟩ (by rw [q2]; exact h6) q1 q3 (by rw [hsl]; exact k2_hasslot (q4 k hk)) rfl rfl hd fun H' e1 e2 e3 => ?_
    rw [hsl] at e1 ⊢
    refine hK _ _ _ _ q p e R s m args below meth c c0 n0 hX hc H' _ arr (hR.set ho.1 ?_ e2 e3) ?_ hA
    · exact ⟨_, hcl, t_OB.to (V := updV (vp_V fs) k v) ⟨_, e1, q2, q3, t_set q4 hap hk v⟩ (fun j _ => vp_updV_set hlen v j)⟩
    · intro x hx
      rcases List.mem_append.mp hx with hx | hx
      · exact hL x hx
      · rw [List.mem_singleton.mp hx]; exact ho.1.1
  · exact q.elim
theorem ok_putfF (hG : zd_G B) {C : String} {T : u_T} {ty : Nat → FieldType} {N ci k idx : Nat} (hcl : zd_cl[ci]? = some (C, T, N)) (hlay : zd_lay C T N) (htab : zd_tab T ty N) (hk : k < N) (hl : Cond.fieldLink (zd_yn y).cls idx (T k).1 (T k).2.1 (T k).2.2.1 ∈ lw_tbl) (hfin : (T k).2.2.2 = true) (hin : (zd_yn y).name = "<init>") (hdecl : (T k).1 = (zd_yn y).cls) (hd : decode (zd_yb y) pc = .ok (.putfield idx, 3)) : zd_ok l B y pc (oc_putf B (ty k) ci k (pc + 3)) := by
  intro K ls st h Q hK q
  unfold oc_putf at q
  split at q
  · rename_i v a r
    obtain ⟨fs, ho, hlen, ⟨hn, hfit⟩, q⟩ := q
    intro p e R s m args below meth c c0 n0 hX hc H locs arr hR hL hA
    have hts : ∀ w ∈ u_ws C T N, w.before args s = true := fun w hw => zd_wd hG hX (hlay w hw).1 (Or.inl (hlay w hw).2) args
    have hKn := zd_kn hG hX
    have hap := va_apart (own := (zd_yn y).cls) (args := args) hts (fun w hw => hw) ty htab.1 htab.2 hKn hcl
    obtain ⟨rr, h1, cell, q1, q2, q3, q4⟩ := hR.ob ho 0 _ rfl
    have hr : rr = (C, T, N) := Option.some.inj (h1.symm.trans hcl)
    subst hr
    obtain ⟨hS, hfc, kC, hkC, hkind⟩ := hKn.1 ci _ hcl
    obtain ⟨cf, kf, fi, f, hi, hsl⟩ := hS k hk
    have hlay' := hts _ (u_in_lay hk)
    unfold u_lay at hlay'
    rw [if_pos hfin] at hlay'
    have hst := (u_facts hfc hkC (u_lays hts (fun w hw => hw) hk) hi).1
    have hcf : m.cls = cf := by
      obtain ⟨_, _, c', _, _, _, -, -, hf', -, -, -, hown2, -⟩ := Cond.laysFinal_spec hlay'
      have e1 : c' = cf := by have := hi.symm.trans hf'; simp at this; exact this.1.symm
      rw [hdecl] at hown2
      rw [← e1]; exact Option.some.inj ((zd_own hX).symm.trans hown2)
    have h6 := u_fits hfc hkC hkind (Or.inr hlay') hi (htab.1 k hk) hn hfit
    have hname : meth.name = "<init>" := ((name_of_methodNamed hX.2.2.2.2.2.1 hX.2.2.2.2.2.2.1).1).trans hin
    refine W.putFinK hX.1 hX.2.1 (zd_own hX) (zd_wd hG hX hl (Or.inl (by first | rfl | simp [Cond.onTables, Cond.keeps, Cond.steady])) args) hi hst hcf hname (by rw [q2]; exact h6) q1 q3 (by rw [hsl]; exact k2_hasslot (q4 k hk)) rfl rfl hd fun H' e1 e2 e3 => ?_
    rw [hsl] at e1 ⊢
    refine hK _ _ _ _ q p e R s m args below meth c c0 n0 hX hc H' _ arr (hR.set ho.1 ?_ e2 e3) ?_ hA
    · exact ⟨_, hcl, t_OB.to (V := updV (vp_V fs) k v) ⟨_, e1, q2, q3, t_set q4 hap hk v⟩ (fun j _ => vp_updV_set hlen v j)⟩
    · intro x hx
      rcases List.mem_append.mp hx with hx | hx
      · exact hL x hx
      · rw [List.mem_singleton.mp hx]; exact ho.1.1
  · exact q.elim
theorem zd_arr (hG : zd_G B) (hX : zd_X B y p R s m meth c c0 n0) {k : Nat} {ty : FieldType} (hk : zd_ty[k]? = some ty) : ArrOfT s (zd_aK B k) ty := arrOfT_moved hX.2.2.2.2.2.2.2.1.alike (hG.2.2.1 k ty hk).1
def oc_iaload (B : zd_B) (nx : Nat) : zd_S := fun K ls st h _ => match st with
  | .int i :: .ref a :: r => ∃ n f, (zd_Ai B h a 0 n f ∨ zd_Ol B a n f) ∧ vp_in i n ∧ K nx ls (.int (f i.toNatClampNeg) :: r) h
  | _ => False
theorem ok_iaload (hG : zd_G B) (hd : decode (zd_yb y) pc = .ok (.iaload, 1)) : zd_ok l B y pc (oc_iaload B (pc + 1)) := by
  intro K ls st h Q hK q
  unfold oc_iaload at q
  split at q
  · rename_i i a r
    obtain ⟨n, f, ho, hin, q⟩ := q
    intro p e R s m args below meth c c0 n0 hX hc H locs arr hR hL hA
    have hlt : i.toNatClampNeg < n := Nat.not_le.mp fun z => hin (Or.inr z)
    have kk := hK _ _ _ _ q p e R s m args below meth c c0 n0 hX hc H locs arr hR hL hA
    rcases ho with ho | ho
    · have hcell : H[a]? = some (arrV (zd_aK B 0) n (fun j => .int (f j))) := by
        have := hR.2.1 a ho.1
        rw [ho.2] at this
        exact this
      exact W.iald hX.1 hX.2.1 hcell (zd_arr hG hX (k := 0) rfl n _) (fun z => by cases z) (by rw [arrV_size]; exact hin) (arrV_read _ _ hlt) rfl rfl hd kk
    · obtain ⟨cell, a1, a2, a3, a4, a5, a6⟩ := ho
      have hla : a < zd_b0 B := (Array.getElem?_eq_some_iff.mp a1).1
      have hcell : H[a]? = some cell := (hR.2.2 a hla).trans a1
      refine W.iald hX.1 hX.2.1 hcell (State.isArrayOf_alike hX.2.2.2.2.2.2.2.1.alike a2) a3 (fun z => ?_) (a6 _ hlt) rfl rfl hd kk
      rcases z with z | z
      · exact hin (Or.inl z)
      · omega
  · exact q.elim
def oc_iastore (B : zd_B) (nx : Nat) : zd_S := fun K ls st h _ => match st with
  | .int x :: .int i :: .ref a :: r => ∃ n f, zd_Ai B h a 0 n f ∧ vp_in i n ∧ K nx ls r (zd_set h a (.inr (.inl (0, n, upd f i.toNatClampNeg x))))
  | _ => False
theorem zd_updV (f : Nat → Int32) (k : Nat) (x : Int32) : updV (fun j => Value.int (f j)) k (.int x) = fun j => .int (upd f k x j) := by
  funext j
  unfold updV upd
  split <;> rfl
theorem ok_iastore (hG : zd_G B) (hd : decode (zd_yb y) pc = .ok (.iastore, 1)) : zd_ok l B y pc (oc_iastore B (pc + 1)) := by
  intro K ls st h Q hK q
  unfold oc_iastore at q
  split at q
  · rename_i x i a r
    obtain ⟨n, f, ho, hin, q⟩ := q
    intro p e R s m args below meth c c0 n0 hX hc H locs arr hR hL hA
    have hcell : H[a]? = some (arrV (zd_aK B 0) n (fun j => .int (f j))) := by
      have := hR.2.1 a ho.1
      rw [ho.2] at this
      exact this
    refine W.iast hX.1 hX.2.1 hcell (zd_arr hG hX (k := 0) rfl n _) (fun z => by cases z) (by rw [arrV_size]; exact hin) rfl rfl hd fun H' e1 e2 e3 => ?_
    rw [arrV_store, zd_updV] at e1
    refine hK _ _ _ _ q p e R s m args below meth c c0 n0 hX hc H' _ arr (hR.set ho.1 e1 e2 e3) ?_ hA
    intro z hz
    rcases List.mem_append.mp hz with hz | hz
    · exact hL z hz
    · rw [List.mem_singleton.mp hz]; exact ho.1.1
  · exact q.elim
end ZH

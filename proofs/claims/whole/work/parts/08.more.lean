/-! more of the heap's instructions: new cells, rows of other kinds, constants, statics, switches -/
section ZN
variable {l : Launch} {B : zd_B} {y : zd_Y} {pc : Nat}
theorem zd_ac {cd : zd_Y} {q : Nat × zd_S} {r : List (Nat × zd_S)} (h : zd_ok l B cd q.1 q.2) (t : ∀ x ∈ r, zd_ok l B cd x.1 x.2) : ∀ x ∈ q :: r, zd_ok l B cd x.1 x.2 := fun x hx => (List.mem_cons.mp hx).elim (fun e => by rw [e]; exact h) (t x)
theorem zd_an {cd : zd_Y} : ∀ x ∈ ([] : List (Nat × zd_S)), zd_ok l B cd x.1 x.2 := fun x hx => by cases hx
theorem zd_dr {bytes : ByteArray} {L : List (Nat × Instr × Nat)} (h : ∀ q ∈ L, decode bytes q.1 = .ok q.2) (i : Nat) {pc n : Nat} {ins : Instr} (e : L[i]? = some (pc, ins, n)) : decode bytes pc = .ok (ins, n) := h (pc, ins, n) (List.mem_of_getElem? e)
def oc_new (B : zd_B) (ci n : Nat) (fs : List Value) (nx : Nat) : zd_S := fun K ls st h _ => h.1 + 1 ≤ zd_CB ∧ h.2.1 + n ≤ zd_SB ∧ K nx ls (.ref (zd_b0 B + h.1) :: st) (zd_push h (zd_b0 B + h.1) (.inl (ci, fs)) n)
theorem ok_new (hG : zd_G B) {C : String} {T : u_T} {ty : Nat → FieldType} {N ci n idx : Nat} {fs : List Value} (hcl : zd_cl[ci]? = some (C, T, N)) (hlay : zd_lay C T N) (htab : zd_tab T ty N) (hk : Cond.classLink (zd_yn y).cls idx C ∈ lw_tbl) (hins : Cond.instantiable C n ∈ lw_tbl) (hini : Cond.initialized C ∈ lw_tbl) (hfs : ∀ j, j < N → defaultValue (ty j) = vp_V fs j) (hd : decode (zd_yb y) pc = .ok (.new idx, 3)) : zd_ok l B y pc (oc_new B ci n fs (pc + 3)) := by
  intro K ls st h Q hK q
  obtain ⟨q1, q2, q3⟩ := q
  intro p e R s m args below meth c c0 n0 hX hc H locs arr hR hL hA
  have hKn := (zd_kn hG hX).1 ci _ hcl
  have hts : ∀ w ∈ u_ws C T N, w.before args s = true := fun w hw => zd_wd hG hX (hlay w hw).1 (Or.inl (hlay w hw).2) args
  have b1 := hX.2.2.2.2.2.2.2.2.2.2.2.1
  have b2 := hX.2.2.2.2.2.2.2.2.2.2.2.2.1
  refine W.newcK hX.1 hX.2.1 (zd_own hX) (zd_wd hG hX hk (Or.inl (by first | rfl | simp [Cond.onTables, Cond.keeps, Cond.steady])) args) (zd_wd hG hX hins (Or.inl (by first | rfl | simp [Cond.onTables, Cond.keeps, Cond.steady])) args) (zd_wd hG hX hini (Or.inl (by first | rfl | simp [Cond.onTables, Cond.keeps, Cond.steady])) args) (g := F0 m pc arr st) rfl hd (by omega) (by omega) hKn.2.1 (h := zd_b0 B + h.1) hR.1 fun H1 kC hkC e1 z1 o1 => ?_
  refine W.cs (cells' := h.1 + 1 - c0) (slots' := h.2.1 + n - n0) (by omega) (by omega) ?_
  exact hK _ _ _ _ q3 p e R s m args below meth c c0 n0 hX ⟨by show c0 ≤ h.1 + 1; omega, by show n0 ≤ h.2.1 + n; omega, q1, q2⟩ H1 locs arr (hR.push hR.1 ⟨_, hcl, (u_born ty hts (fun w hw => hw) hKn hkC e1 htab.1).to hfs⟩ z1 o1) hL hA
theorem zd_ra (hG : zd_G B) {p : Program} {R : Room} {s : State} {m : MethodId} {meth : Method} {c : Code} {c0 n0 : Nat} (hX : zd_X B y p R s m meth c c0 n0) {k : Nat} {ty : FieldType} (hk : zd_ty[k]? = some ty) : va_RA s (zd_aK B k) ty := va_RA.moved hX.2.2.2.2.2.2.2.1.alike (hG.2.2.1 k ty hk).2
def oc_newa (B : zd_B) (kd nx : Nat) : zd_S := fun K ls st h _ => match st with
  | .int n :: r => (¬ n < 0 ∧ n.toNatClampNeg ≤ 100000 ∧ h.1 + 1 ≤ zd_CB ∧ h.2.1 + n.toNatClampNeg ≤ zd_SB) ∧ K nx ls (.ref (zd_b0 B + h.1) :: r) (zd_push h (zd_b0 B + h.1) (.inr (.inl (kd, n.toNatClampNeg, fun _ => 0))) n.toNatClampNeg)
  | _ => False
def oc_newaL (B : zd_B) (nx : Nat) : zd_S := fun K ls st h _ => match st with
  | .int n :: r => (¬ n < 0 ∧ n.toNatClampNeg ≤ 60000 ∧ h.1 + 1 ≤ zd_CB ∧ h.2.1 + n.toNatClampNeg ≤ zd_SB) ∧ K nx ls (.ref (zd_b0 B + h.1) :: r) (zd_push h (zd_b0 B + h.1) (.inr (.inr (.inl (n.toNatClampNeg, fun _ => 0)))) n.toNatClampNeg)
  | _ => False
theorem ok_newa_int (hG : zd_G B) (hw : Cond.arrayClass .int ∈ lw_tbl) (hd : decode (zd_yb y) pc = .ok (.newarray .int, 2)) : zd_ok l B y pc (oc_newa B 0 (pc + 2)) := by
  intro K ls st h Q hK q
  unfold oc_newa at q
  split at q
  · rename_i n r
    obtain ⟨⟨hn, hb, q1, q2⟩, q3⟩ := q
    intro p e R s m args below meth c c0 n0 hX hc H locs arr hR hL hA
    have b1 := hX.2.2.2.2.2.2.2.2.2.2.2.1
    have b2 := hX.2.2.2.2.2.2.2.2.2.2.2.2.1
    refine va_newaK (N := n.toNatClampNeg) hX.1 hX.2.1 (atype := .int) (zd_wd hG hX hw (Or.inr ⟨_, rfl⟩) args) (g := F0 m pc arr (.int n :: r)) rfl hd rfl hn rfl (by show n.toNatClampNeg * 4 ≤ 536870912; omega) (by omega) (by omega) (h := zd_b0 B + h.1) hR.1 fun H1 cA e1 z1 o1 hAr hNm => ?_
    have hcA : cA = zd_aK B 0 := Option.some.inj (hNm.symm.trans (zd_ra hG hX (k := 0) rfl))
    subst hcA
    refine W.cs (cells' := h.1 + 1 - c0) (slots' := h.2.1 + n.toNatClampNeg - n0) (by omega) (by omega) ?_
    exact hK _ _ _ _ q3 p e R s m args below meth c c0 n0 hX ⟨by show c0 ≤ h.1 + 1; omega, by show n0 ≤ h.2.1 + n.toNatClampNeg; omega, q1, q2⟩ H1 locs arr (hR.push hR.1 e1 z1 o1) hL hA
  · exact q.elim
theorem ok_newa_char (hG : zd_G B) (hw : Cond.arrayClass .char ∈ lw_tbl) (hd : decode (zd_yb y) pc = .ok (.newarray .char, 2)) : zd_ok l B y pc (oc_newa B 1 (pc + 2)) := by
  intro K ls st h Q hK q
  unfold oc_newa at q
  split at q
  · rename_i n r
    obtain ⟨⟨hn, hb, q1, q2⟩, q3⟩ := q
    intro p e R s m args below meth c c0 n0 hX hc H locs arr hR hL hA
    have b1 := hX.2.2.2.2.2.2.2.2.2.2.2.1
    have b2 := hX.2.2.2.2.2.2.2.2.2.2.2.2.1
    refine va_newaK (N := n.toNatClampNeg) hX.1 hX.2.1 (atype := .char) (zd_wd hG hX hw (Or.inr ⟨_, rfl⟩) args) (g := F0 m pc arr (.int n :: r)) rfl hd rfl hn rfl (by show n.toNatClampNeg * 2 ≤ 536870912; omega) (by omega) (by omega) (h := zd_b0 B + h.1) hR.1 fun H1 cA e1 z1 o1 hAr hNm => ?_
    have hcA : cA = zd_aK B 1 := Option.some.inj (hNm.symm.trans (zd_ra hG hX (k := 1) rfl))
    subst hcA
    refine W.cs (cells' := h.1 + 1 - c0) (slots' := h.2.1 + n.toNatClampNeg - n0) (by omega) (by omega) ?_
    exact hK _ _ _ _ q3 p e R s m args below meth c c0 n0 hX ⟨by show c0 ≤ h.1 + 1; omega, by show n0 ≤ h.2.1 + n.toNatClampNeg; omega, q1, q2⟩ H1 locs arr (hR.push hR.1 e1 z1 o1) hL hA
  · exact q.elim
theorem ok_newa_boolean (hG : zd_G B) (hw : Cond.arrayClass .boolean ∈ lw_tbl) (hd : decode (zd_yb y) pc = .ok (.newarray .boolean, 2)) : zd_ok l B y pc (oc_newa B 2 (pc + 2)) := by
  intro K ls st h Q hK q
  unfold oc_newa at q
  split at q
  · rename_i n r
    obtain ⟨⟨hn, hb, q1, q2⟩, q3⟩ := q
    intro p e R s m args below meth c c0 n0 hX hc H locs arr hR hL hA
    have b1 := hX.2.2.2.2.2.2.2.2.2.2.2.1
    have b2 := hX.2.2.2.2.2.2.2.2.2.2.2.2.1
    refine va_newaK (N := n.toNatClampNeg) hX.1 hX.2.1 (atype := .boolean) (zd_wd hG hX hw (Or.inr ⟨_, rfl⟩) args) (g := F0 m pc arr (.int n :: r)) rfl hd rfl hn rfl (by show n.toNatClampNeg * 1 ≤ 536870912; omega) (by omega) (by omega) (h := zd_b0 B + h.1) hR.1 fun H1 cA e1 z1 o1 hAr hNm => ?_
    have hcA : cA = zd_aK B 2 := Option.some.inj (hNm.symm.trans (zd_ra hG hX (k := 2) rfl))
    subst hcA
    refine W.cs (cells' := h.1 + 1 - c0) (slots' := h.2.1 + n.toNatClampNeg - n0) (by omega) (by omega) ?_
    exact hK _ _ _ _ q3 p e R s m args below meth c c0 n0 hX ⟨by show c0 ≤ h.1 + 1; omega, by show n0 ≤ h.2.1 + n.toNatClampNeg; omega, q1, q2⟩ H1 locs arr (hR.push hR.1 e1 z1 o1) hL hA
  · exact q.elim
theorem ok_newa_long (hG : zd_G B) (hw : Cond.arrayClass .long ∈ lw_tbl) (hd : decode (zd_yb y) pc = .ok (.newarray .long, 2)) : zd_ok l B y pc (oc_newaL B (pc + 2)) := by
  intro K ls st h Q hK q
  unfold oc_newaL at q
  split at q
  · rename_i n r
    obtain ⟨⟨hn, hb, q1, q2⟩, q3⟩ := q
    intro p e R s m args below meth c c0 n0 hX hc H locs arr hR hL hA
    have b1 := hX.2.2.2.2.2.2.2.2.2.2.2.1
    have b2 := hX.2.2.2.2.2.2.2.2.2.2.2.2.1
    refine va_newaK (N := n.toNatClampNeg) hX.1 hX.2.1 (atype := .long) (zd_wd hG hX hw (Or.inr ⟨_, rfl⟩) args) (g := F0 m pc arr (.int n :: r)) rfl hd rfl hn rfl (by show n.toNatClampNeg * 8 ≤ 536870912; omega) (by omega) (by omega) (h := zd_b0 B + h.1) hR.1 fun H1 cA e1 z1 o1 hAr hNm => ?_
    have hcA : cA = zd_aK B 3 := Option.some.inj (hNm.symm.trans (zd_ra hG hX (k := 3) rfl))
    subst hcA
    refine W.cs (cells' := h.1 + 1 - c0) (slots' := h.2.1 + n.toNatClampNeg - n0) (by omega) (by omega) ?_
    exact hK _ _ _ _ q3 p e R s m args below meth c c0 n0 hX ⟨by show c0 ≤ h.1 + 1; omega, by show n0 ≤ h.2.1 + n.toNatClampNeg; omega, q1, q2⟩ H1 locs arr (hR.push hR.1 e1 z1 o1) hL hA
  · exact q.elim
def oc_anew (B : zd_B) (nx : Nat) : zd_S := fun K ls st h _ => match st with
  | .int n :: r => (¬ n < 0 ∧ n.toNatClampNeg ≤ 100000 ∧ h.1 + 1 ≤ zd_CB ∧ h.2.1 + n.toNatClampNeg ≤ zd_SB) ∧ K nx ls (.ref (zd_b0 B + h.1) :: r) (zd_push h (zd_b0 B + h.1) (.inr (.inr (.inr (n.toNatClampNeg, fun _ => none)))) n.toNatClampNeg)
  | _ => False
def oc_caload (B : zd_B) (nx : Nat) : zd_S := fun K ls st h _ => match st with
  | .int i :: .ref a :: r => ∃ n f, zd_Ai B h a 1 n f ∧ vp_in i n ∧ K nx ls (.int (f i.toNatClampNeg) :: r) h
  | _ => False
theorem ok_caload (hG : zd_G B) (hd : decode (zd_yb y) pc = .ok (.caload, 1)) : zd_ok l B y pc (oc_caload B (pc + 1)) := by
  intro K ls st h Q hK q
  unfold oc_caload at q
  split at q
  · rename_i i a r
    obtain ⟨n, f, ho, hin, q⟩ := q
    intro p e R s m args below meth c c0 n0 hX hc H locs arr hR hL hA
    have hlt : i.toNatClampNeg < n := Nat.not_le.mp fun z => hin (Or.inr z)
    have hcell : H[a]? = some (arrV (zd_aK B 1) n (fun j => .int (f j))) := by
      have := hR.2.1 a ho.1
      rw [ho.2] at this
      exact this
    exact W.cald hX.1 hX.2.1 hcell (zd_arr hG hX (k := 1) rfl n _) (fun z => by cases z) (by rw [arrV_size]; exact hin) (arrV_read _ _ hlt) rfl rfl hd (hK _ _ _ _ q p e R s m args below meth c c0 n0 hX hc H locs arr hR hL hA)
  · exact q.elim
def oc_castore (B : zd_B) (nx : Nat) : zd_S := fun K ls st h _ => match st with
  | .int x :: .int i :: .ref a :: r => ∃ n f, zd_Ai B h a 1 n f ∧ vp_in i n ∧ narrow .char (.int x) = .int x ∧ K nx ls r (zd_set h a (.inr (.inl (1, n, upd f i.toNatClampNeg x))))
  | _ => False
theorem ok_castore (hG : zd_G B) (hd : decode (zd_yb y) pc = .ok (.castore, 1)) : zd_ok l B y pc (oc_castore B (pc + 1)) := by
  intro K ls st h Q hK q
  unfold oc_castore at q
  split at q
  · rename_i x i a r
    obtain ⟨n, f, ho, hin, hnw, q⟩ := q
    intro p e R s m args below meth c c0 n0 hX hc H locs arr hR hL hA
    have hcell : H[a]? = some (arrV (zd_aK B 1) n (fun j => .int (f j))) := by
      have := hR.2.1 a ho.1
      rw [ho.2] at this
      exact this
    refine W.cast hX.1 hX.2.1 hcell (zd_arr hG hX (k := 1) rfl n _) (fun z => by cases z) (by rw [arrV_size]; exact hin) rfl rfl hd fun H' e1 e2 e3 => ?_
    rw [hnw, arrV_store, zd_updV] at e1
    refine hK _ _ _ _ q p e R s m args below meth c c0 n0 hX hc H' _ arr (hR.set ho.1 e1 e2 e3) ?_ hA
    intro z hz
    rcases List.mem_append.mp hz with hz | hz
    · exact hL z hz
    · rw [List.mem_singleton.mp hz]; exact ho.1.1
  · exact q.elim
def oc_baload (B : zd_B) (nx : Nat) : zd_S := fun K ls st h _ => match st with
  | .int i :: .ref a :: r => ∃ n f, zd_Ai B h a 2 n f ∧ vp_in i n ∧ K nx ls (.int (f i.toNatClampNeg) :: r) h
  | _ => False
theorem ok_baload (hG : zd_G B) (hd : decode (zd_yb y) pc = .ok (.baload, 1)) : zd_ok l B y pc (oc_baload B (pc + 1)) := by
  intro K ls st h Q hK q
  unfold oc_baload at q
  split at q
  · rename_i i a r
    obtain ⟨n, f, ho, hin, q⟩ := q
    intro p e R s m args below meth c c0 n0 hX hc H locs arr hR hL hA
    have hlt : i.toNatClampNeg < n := Nat.not_le.mp fun z => hin (Or.inr z)
    have hcell : H[a]? = some (arrV (zd_aK B 2) n (fun j => .int (f j))) := by
      have := hR.2.1 a ho.1
      rw [ho.2] at this
      exact this
    exact W.zald hX.1 hX.2.1 hcell (zd_arr hG hX (k := 2) rfl n _) (fun z => by cases z) (by rw [arrV_size]; exact hin) (arrV_read _ _ hlt) rfl rfl hd (hK _ _ _ _ q p e R s m args below meth c c0 n0 hX hc H locs arr hR hL hA)
  · exact q.elim
def oc_bastore (B : zd_B) (nx : Nat) : zd_S := fun K ls st h _ => match st with
  | .int x :: .int i :: .ref a :: r => ∃ n f, zd_Ai B h a 2 n f ∧ vp_in i n ∧ narrow .boolean (.int x) = .int x ∧ K nx ls r (zd_set h a (.inr (.inl (2, n, upd f i.toNatClampNeg x))))
  | _ => False
theorem ok_bastore (hG : zd_G B) (hd : decode (zd_yb y) pc = .ok (.bastore, 1)) : zd_ok l B y pc (oc_bastore B (pc + 1)) := by
  intro K ls st h Q hK q
  unfold oc_bastore at q
  split at q
  · rename_i x i a r
    obtain ⟨n, f, ho, hin, hnw, q⟩ := q
    intro p e R s m args below meth c c0 n0 hX hc H locs arr hR hL hA
    have hcell : H[a]? = some (arrV (zd_aK B 2) n (fun j => .int (f j))) := by
      have := hR.2.1 a ho.1
      rw [ho.2] at this
      exact this
    refine W.zast hX.1 hX.2.1 hcell (zd_arr hG hX (k := 2) rfl n _) (fun z => by cases z) (by rw [arrV_size]; exact hin) rfl rfl hd fun H' e1 e2 e3 => ?_
    rw [hnw, arrV_store, zd_updV] at e1
    refine hK _ _ _ _ q p e R s m args below meth c c0 n0 hX hc H' _ arr (hR.set ho.1 e1 e2 e3) ?_ hA
    intro z hz
    rcases List.mem_append.mp hz with hz | hz
    · exact hL z hz
    · rw [List.mem_singleton.mp hz]; exact ho.1.1
  · exact q.elim
def oc_laload (B : zd_B) (nx : Nat) : zd_S := fun K ls st h _ => match st with
  | .int i :: .ref a :: r => ∃ n f, zd_Al B h a n f ∧ vp_in i n ∧ K nx ls (.long (f i.toNatClampNeg) :: r) h
  | _ => False
theorem ok_laload (hG : zd_G B) (hd : decode (zd_yb y) pc = .ok (.laload, 1)) : zd_ok l B y pc (oc_laload B (pc + 1)) := by
  intro K ls st h Q hK q
  unfold oc_laload at q
  split at q
  · rename_i i a r
    obtain ⟨n, f, ho, hin, q⟩ := q
    intro p e R s m args below meth c c0 n0 hX hc H locs arr hR hL hA
    have hlt : i.toNatClampNeg < n := Nat.not_le.mp fun z => hin (Or.inr z)
    have hcell : H[a]? = some (arrV (zd_aK B 3) n (fun j => .long (f j))) := by
      have := hR.2.1 a ho.1
      rw [ho.2] at this
      exact this
    exact W.lald hX.1 hX.2.1 hcell (zd_arr hG hX (k := 3) rfl n _) (fun z => by cases z) (by rw [arrV_size]; exact hin) (arrV_read _ _ hlt) rfl rfl hd (hK _ _ _ _ q p e R s m args below meth c c0 n0 hX hc H locs arr hR hL hA)
  · exact q.elim
def oc_lastore (B : zd_B) (nx : Nat) : zd_S := fun K ls st h _ => match st with
  | .long x :: .int i :: .ref a :: r => ∃ n f, zd_Al B h a n f ∧ vp_in i n ∧ K nx ls r (zd_set h a (.inr (.inr (.inl (n, vp_updL f i.toNatClampNeg x)))))
  | _ => False
theorem zd_updVL (f : Nat → Int64) (k : Nat) (x : Int64) : updV (fun j => Value.long (f j)) k (.long x) = fun j => .long (vp_updL f k x j) := by
  funext j
  unfold updV vp_updL
  split <;> rfl
theorem ok_lastore (hG : zd_G B) (hd : decode (zd_yb y) pc = .ok (.lastore, 1)) : zd_ok l B y pc (oc_lastore B (pc + 1)) := by
  intro K ls st h Q hK q
  unfold oc_lastore at q
  split at q
  · rename_i x i a r
    obtain ⟨n, f, ho, hin, q⟩ := q
    intro p e R s m args below meth c c0 n0 hX hc H locs arr hR hL hA
    have hcell : H[a]? = some (arrV (zd_aK B 3) n (fun j => .long (f j))) := by
      have := hR.2.1 a ho.1
      rw [ho.2] at this
      exact this
    refine W.last hX.1 hX.2.1 hcell (zd_arr hG hX (k := 3) rfl n _) (fun z => by cases z) (by rw [arrV_size]; exact hin) rfl rfl hd fun H' e1 e2 e3 => ?_
    rw [arrV_store, zd_updVL] at e1
    refine hK _ _ _ _ q p e R s m args below meth c c0 n0 hX hc H' _ arr (hR.set ho.1 e1 e2 e3) ?_ hA
    intro z hz
    rcases List.mem_append.mp hz with hz | hz
    · exact hL z hz
    · rw [List.mem_singleton.mp hz]; exact ho.1.1
  · exact q.elim
def oc_aaload (B : zd_B) (nx : Nat) : zd_S := fun K ls st h _ => match st with
  | .int i :: .ref a :: r => ∃ n f v, zd_Ar B h a n f ∧ vp_in i n ∧ f i.toNatClampNeg = some v ∧ K nx ls (.ref v :: r) h
  | _ => False
theorem ok_aaload (hG : zd_G B) (hd : decode (zd_yb y) pc = .ok (.aaload, 1)) : zd_ok l B y pc (oc_aaload B (pc + 1)) := by
  intro K ls st h Q hK q
  unfold oc_aaload at q
  split at q
  · rename_i i a r
    obtain ⟨n, f, v, ho, hin, hv, q⟩ := q
    intro p e R s m args below meth c c0 n0 hX hc H locs arr hR hL hA
    have hlt : i.toNatClampNeg < n := Nat.not_le.mp fun z => hin (Or.inr z)
    have kk := hK _ _ _ _ q p e R s m args below meth c c0 n0 hX hc H locs arr hR hL hA
    have hcell : H[a]? = some (arrV (zd_aK B 4) n (fun j => va_rf (f j))) := by
      have := hR.2.1 a ho.1
      rw [ho.2] at this
      exact this
    refine W.aald (ty := .object "DecimalDesk$Decimal") hX.1 hX.2.1 hcell (zd_arr hG hX (k := 4) rfl n _) rfl (fun z => by cases z) (by rw [arrV_size]; exact hin) (v := .ref v) ?_ rfl rfl hd kk
    rw [arrV_read _ _ hlt, hv]
    rfl
  · exact q.elim
def oc_arraylength (B : zd_B) (nx : Nat) : zd_S := fun K ls st h _ => match st with
  | .ref a :: r => ∃ n, ((∃ k f, zd_Ai B h a k n f ∧ k < 3) ∨ ∃ f, zd_Ol B a n f) ∧ K nx ls (.int (nI n) :: r) h
  | _ => False
theorem ok_arraylength (hG : zd_G B) (hd : decode (zd_yb y) pc = .ok (.arraylength, 1)) : zd_ok l B y pc (oc_arraylength B (pc + 1)) := by
  intro K ls st h Q hK q
  unfold oc_arraylength at q
  split at q
  · rename_i a r
    obtain ⟨n, ho, q⟩ := q
    intro p e R s m args below meth c c0 n0 hX hc H locs arr hR hL hA
    have kk := hK _ _ _ _ q p e R s m args below meth c c0 n0 hX hc H locs arr hR hL hA
    rcases ho with ⟨k, f, ho, hk3⟩ | ⟨f, ho⟩
    · have hcell : H[a]? = some (arrV (zd_aK B k) n (fun j => .int (f j))) := by
        have := hR.2.1 a ho.1
        rw [ho.2] at this
        exact this
      have hz : (arrV (zd_aK B k) n (fun j => .int (f j))).slots.size.toInt32 = nI n := by rw [arrV_size]; rfl
      rcases (show k = 0 ∨ k = 1 ∨ k = 2 by omega) with rfl | rfl | rfl
      · exact W.alen hX.1 hX.2.1 hcell (zd_arr hG hX (k := 0) rfl n _) hz rfl rfl hd kk
      · exact W.alen hX.1 hX.2.1 hcell (zd_arr hG hX (k := 1) rfl n _) hz rfl rfl hd kk
      · exact W.alen hX.1 hX.2.1 hcell (zd_arr hG hX (k := 2) rfl n _) hz rfl rfl hd kk
    · obtain ⟨cell, a1, a2, a3, a4, a5, a6⟩ := ho
      have hla : a < zd_b0 B := (Array.getElem?_eq_some_iff.mp a1).1
      exact W.alen hX.1 hX.2.1 ((hR.2.2 a hla).trans a1) (State.isArrayOf_alike hX.2.2.2.2.2.2.2.1.alike a2) a4 rfl rfl hd kk
  · exact q.elim
/-- the table of the powers of ten -/
def oc_tens (B : zd_B) (nx : Nat) : zd_S := fun K ls st h _ => K nx ls (.ref (zd_tT B) :: st) h
theorem zd_zt (hG : zd_G B) {p : Program} {R : Room} {s : State} {m : MethodId} {meth : Method} {c : Code} {c0 n0 : Nat} (hX : zd_X B y p R s m meth c c0 n0) {h : zd_H} {H : Heap} (hR : zd_R B h H) :
    va_Z "DecimalDesk" "TENS" "[I" (.ref (zd_tT B)) (fun q => zd_b0 B ≤ q) s H := va_Z.moved hX.2.2.2.2.2.2.2.1.alike (va_Z.kept hG.2.2.2.1 (fun a h1 _ => hR.2.2 a h1))
theorem ok_tens (hG : zd_G B) {idx : Nat} (hl : Cond.fieldLink (zd_yn y).cls idx "DecimalDesk" "TENS" "[I" ∈ lw_tbl) (hd : decode (zd_yb y) pc = .ok (.getstatic idx, 3)) : zd_ok l B y pc (oc_tens B (pc + 3)) := by
  intro K ls st h Q hK q
  intro p e R s m args below meth c c0 n0 hX hc H locs arr hR hL hA
  obtain ⟨cf, kf, fi, f, a, cell, h1, h2, h3, h4, h5, h6, h7, h8⟩ := zd_zt hG hX hR
  exact W.gets hX.1 hX.2.1 (zd_own hX) (zd_wd hG hX hl (Or.inl (by first | rfl | simp [Cond.onTables, Cond.keeps, Cond.steady])) args) h1 h2 h3 h4 h5 (fun e => by rw [e] at h6; cases h6) h7 rfl hd (hK _ _ _ _ q p e R s m args below meth c c0 n0 hX hc H locs arr hR hL hA)
theorem ok_tensN (hG : zd_G B) {idx : Nat} {host : String} (hl : Cond.fieldLinkNest (zd_yn y).cls idx "DecimalDesk" "TENS" "[I" host ∈ lw_tbl) (hd : decode (zd_yb y) pc = .ok (.getstatic idx, 3)) : zd_ok l B y pc (oc_tens B (pc + 3)) := by
  intro K ls st h Q hK q
  intro p e R s m args below meth c c0 n0 hX hc H locs arr hR hL hA
  obtain ⟨cf, kf, fi, f, a, cell, h1, h2, h3, h4, h5, h6, h7, h8⟩ := zd_zt hG hX hR
  exact va_WgetsN hX.1 hX.2.1 (zd_own hX) (va_Nw.use rfl (va_Nw.warmF hX.2.2.2.2.2.2.2.1 (va_Nw.of rfl (hG.1 _ hl)))) h1 h2 h3 h4 h5 (fun e => by rw [e] at h6; cases h6) h7 rfl hd (hK _ _ _ _ q p e R s m args below meth c c0 n0 hX hc H locs arr hR hL hA)
theorem ok_ldc (hG : zd_G B) {idx : Nat} {v : Int32} (hl : Cond.constant (zd_yn y).cls idx v ∈ lw_tbl) (hd : decode (zd_yb y) pc = .ok (.ldc idx, 2)) : zd_ok l B y pc (oc_ci v (pc + 2)) := by
  intro K ls st h Q hK q
  intro p e R s m args below meth c c0 n0 hX hc H locs arr hR hL hA
  exact lv_ldc hX.1 hX.2.1 (zd_own hX) (zd_wd hG hX hl (Or.inl (by first | rfl | simp [Cond.onTables, Cond.keeps, Cond.steady])) args) hd (hK _ _ _ _ q p e R s m args below meth c c0 n0 hX hc H locs arr hR hL hA)
theorem ok_ldc2 (hG : zd_G B) {idx : Nat} {v : Int64} (hl : Cond.constantLong (zd_yn y).cls idx v ∈ lw_tbl) (hd : decode (zd_yb y) pc = .ok (.ldc2_w idx, 3)) : zd_ok l B y pc (oc_cl v (pc + 3)) := by
  intro K ls st h Q hK q
  intro p e R s m args below meth c c0 n0 hX hc H locs arr hR hL hA
  exact lv_ldc2 hX.1 hX.2.1 (zd_own hX) (zd_wd hG hX hl (Or.inl (by first | rfl | simp [Cond.onTables, Cond.keeps, Cond.steady])) args) hd (hK _ _ _ _ q p e R s m args below meth c c0 n0 hX hc H locs arr hR hL hA)
theorem ok_iincW {i : Nat} {n : Int} {d : Int32} (hd : decode (zd_yb y) pc = .ok (.iinc i n, 6)) (hn : i < zd_yl y) (hv : Int32.ofInt n = d) : zd_ok l B y pc (oc_iinc i d (pc + 6)) := by
  intro K ls st h Q hK q
  unfold oc_iinc at q
  split at q
  · rename_i x hx
    intro p e R s m args below meth c c0 n0 hX hc H locs arr hR hL hA
    obtain ⟨k, hk⟩ := List.getElem?_of_mem (zd_lp_mem.mpr hx)
    exact lv_iincW (lv := zd_lp ls) hX.1 hX.2.1 hd hA.has hk (by rw [hv]) hn rfl (fun arr' hl' => hK _ _ _ _ (zd_fl_eq q) p e R s m args below meth c c0 n0 hX hc H locs arr' hR hL (zd_Lh.st1 hl'))
  · exact q.elim
/-- a switch: the cases one by one -/
def zd_sw (K : zd_K) (ls : zd_V) (r : List Value) (h : zd_H) (x : Int32) (df : Nat) : List (Int × Nat) → Prop
  | [] => K df ls r h
  | q :: cs => (x = Int32.ofInt q.1 → K q.2 ls r h) ∧ (¬ x = Int32.ofInt q.1 → zd_sw K ls r h x df cs)
def oc_sw (cs : List (Int × Nat)) (df : Nat) : zd_S := fun K ls st h _ => match st with
  | .int x :: r => zd_sw K ls r h x df cs
  | _ => False
theorem zd_sw_in {K : zd_K} {ls : zd_V} {r : List Value} {h : zd_H} {x : Int32} {df : Nat} {cs : List (Int × Nat)} (q : zd_sw K ls r h x df cs) : (∃ c ∈ cs, x = Int32.ofInt c.1 ∧ K c.2 ls r h) ∨ ((∀ c ∈ cs, ¬ x = Int32.ofInt c.1) ∧ K df ls r h) := by
  induction cs with
  | nil => exact Or.inr ⟨fun c hc => (by cases hc), q⟩
  | cons a cs ih =>
    by_cases e : x = Int32.ofInt a.1
    · exact Or.inl ⟨a, List.mem_cons_self, e, q.1 e⟩
    · rcases ih (q.2 e) with ⟨c, hc, e1, e2⟩ | ⟨h1, h2⟩
      · exact Or.inl ⟨c, List.mem_cons_of_mem _ hc, e1, e2⟩
      · exact Or.inr ⟨fun c hc => (List.mem_cons.mp hc).elim (fun z => by rw [z]; exact e) (h1 c), h2⟩
/-- the table's rows are the switch's cases -/
def zd_swok (pc : Nat) (lo hi : Int) (offs : Array Int) (cs : List (Int × Nat)) : Prop := (cs.map (fun c => c.1) = (List.range cs.length).map (fun (i : Nat) => lo + (i : Int))) ∧ hi = lo + (cs.length : Int) - 1 ∧ (∀ i, i < cs.length → (offs[i]?.map (fun o => (pc : Int) + o)) = (cs[i]?.map (fun c => (c.2 : Int)))) ∧ -1000 < lo ∧ hi < 1000
theorem ok_sw {df0 lo hi : Int} {offs : Array Int} {len df : Nat} {cs : List (Int × Nat)} (hd : decode (zd_yb y) pc = .ok (.tableswitch df0 lo hi offs, len)) (hdf : (pc : Int) + df0 = (df : Int)) (hs : zd_swok pc lo hi offs cs) : zd_ok l B y pc (oc_sw cs df) := by
  intro K ls st h Q hK q
  unfold oc_sw at q
  split at q
  · rename_i x r
    intro p e R s m args below meth c c0 n0 hX hc H locs arr hR hL hA
    obtain ⟨s1, s2, s3, s4, s5⟩ := hs
    have key : ∀ i, i < cs.length → ∃ c, cs[i]? = some c ∧ c ∈ cs ∧ c.1 = lo + (i : Int) := by
      intro i hi
      refine ⟨cs[i], List.getElem?_eq_getElem hi, List.getElem_mem hi, ?_⟩
      have h1 : (cs.map (fun c => c.1))[i]? = some cs[i].1 := by simp [hi]
      rw [s1] at h1
      simp [hi] at h1
      exact h1.symm
    rcases zd_sw_in q with ⟨cc, hcc, e1, e2⟩ | ⟨h1, h2⟩
    · obtain ⟨i, hi, hci⟩ := List.mem_iff_getElem.mp hcc
      obtain ⟨c', e3, -, e4⟩ := key i hi
      have e5 : c' = cc := by rw [List.getElem?_eq_getElem hi, hci] at e3; exact (Option.some.inj e3).symm
      subst e5
      have hx : x.toInt = c'.1 := by rw [e1]; exact Int32.toInt_ofInt_of_le (by omega) (by omega)
      have h3 := s3 i hi
      rw [e3] at h3
      obtain ⟨o, ho⟩ : ∃ o, offs[i]? = some o := by
        cases hq : offs[i]? with
        | none => rw [hq] at h3; cases h3
        | some o => exact ⟨o, rfl⟩
      rw [ho] at h3
      exact lv_tableIn hX.1 hX.2.1 hd (by omega) (by omega) (by rw [hx, e4, show (lo + (i : Int) - lo).toNat = i by omega]; exact ho) (Option.some.inj h3) (hK _ _ _ _ e2 p e R s m args below meth c c0 n0 hX hc H locs arr hR hL hA)
    · refine lv_tableOut hX.1 hX.2.1 hd ?_ hdf (hK _ _ _ _ h2 p e R s m args below meth c c0 n0 hX hc H locs arr hR hL hA)
      by_cases ha : x.toInt < lo
      · exact Or.inl ha
      · refine Or.inr (Int.not_le.mp fun hb => ?_)
        obtain ⟨c', e3, e4, e5⟩ := key (x.toInt - lo).toNat (by omega)
        refine h1 c' e4 ?_
        rw [e5, show lo + ((x.toInt - lo).toNat : Int) = x.toInt by omega]
        exact (Int32.ofInt_toInt x).symm
  · exact q.elim
end ZN

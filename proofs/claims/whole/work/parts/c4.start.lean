/-! what is given at the start -/
section ZS
variable {s : State} {args : Array Value}
theorem st_str {own tx : String} {k : Nat} (h : (Cond.stringRef own k tx).before args s = true) : ∃ a, vk_R own k tx a s := by
  cases hc : s.vm.findClass own with
  | none => simp [Cond.before, Cond.holds, Cond.value, hc] at h
  | some cur =>
    obtain ⟨k', cf, i, a, -, -, -, -, -, e⟩ := Cond.stringRef_spec hc h
    exact ⟨a, vk_R.of h e⟩
theorem st_arr {ty : FieldType} (hty : ∀ C, ty ≠ .object C) (h : (Cond.arrayClass ty).before args s = true) : ∃ cA, ArrOfT s cA ty ∧ va_RA s cA ty := by
  obtain ⟨cA, kA, comp, h1, h2, h3⟩ := Cond.arrayClass_spec h
  refine ⟨cA, fun n z => ⟨fun k h => (by cases h), kA, h2, comp, h3⟩, ?_⟩
  cases ty with
  | object C => exact absurd rfl (hty C)
  | _ => exact h1
theorem st_arrO {C : String} (h : (Cond.arrayOver (.object C)).before args s = true) : ∃ cA, ArrOfT s cA (.object C) ∧ va_RA s cA (.object C) := by
  obtain ⟨comp, c, k, h1, h2, h3, h4, h5⟩ := Cond.arrayOver_spec h
  exact ⟨c, fun N z => ⟨fun k h => (by cases h), k, h3, comp, h4⟩, k, comp, h3, h4, h1, h5⟩
theorem st_c0 (hts : ∀ w ∈ lw_tbl, w.before args s = true) : ∃ (cC : ClassId) (iS : Nat → Nat), u_Kn s zR0 zT0 8 cC iS := u_known (n := 8) hts (fun w hw => (zl0 w hw).1) (hts (.instantiable zR0 8) (by decide +kernel))
theorem st_c1 (hts : ∀ w ∈ lw_tbl, w.before args s = true) : ∃ (cC : ClassId) (iS : Nat → Nat), u_Kn s zR1 zT1 3 cC iS := u_known (n := 3) hts (fun w hw => (zl1 w hw).1) (hts (.instantiable zR1 3) (by decide +kernel))
theorem st_c2 (hts : ∀ w ∈ lw_tbl, w.before args s = true) : ∃ (cC : ClassId) (iS : Nat → Nat), u_Kn s zR2 zT2 1 cC iS := u_known (n := 1) hts (fun w hw => (zl2 w hw).1) (hts (.instantiable zR2 1) (by decide +kernel))
theorem st_c3 (hts : ∀ w ∈ lw_tbl, w.before args s = true) : ∃ (cC : ClassId) (iS : Nat → Nat), u_Kn s zR3 zT3 8 cC iS := u_known (n := 8) hts (fun w hw => (zl3 w hw).1) (hts (.instantiable zR3 8) (by decide +kernel))
theorem st_c4 (hts : ∀ w ∈ lw_tbl, w.before args s = true) : ∃ (cC : ClassId) (iS : Nat → Nat), u_Kn s zR4 zT4 2 cC iS := u_known (n := 2) hts (fun w hw => (zl4 w hw).1) (hts (.instantiable zR4 2) (by decide +kernel))
theorem st_c5 (hts : ∀ w ∈ lw_tbl, w.before args s = true) : ∃ (cC : ClassId) (iS : Nat → Nat), u_Kn s zR5 zT5 4 cC iS := u_known (n := 4) hts (fun w hw => (zl5 w hw).1) (hts (.instantiable zR5 4) (by decide +kernel))
theorem st_c6 (hts : ∀ w ∈ lw_tbl, w.before args s = true) : ∃ (cC : ClassId) (iS : Nat → Nat), u_Kn s zR6 zT6 4 cC iS := u_known (n := 4) hts (fun w hw => (zl6 w hw).1) (hts (.instantiable zR6 4) (by decide +kernel))
theorem st_c7 (hts : ∀ w ∈ lw_tbl, w.before args s = true) : ∃ (cC : ClassId) (iS : Nat → Nat), u_Kn s zR7 zT7 2 cC iS := u_known (n := 2) hts (fun w hw => (zl7 w hw).1) (hts (.instantiable zR7 2) (by decide +kernel))
theorem st_c8 (hts : ∀ w ∈ lw_tbl, w.before args s = true) : ∃ (cC : ClassId) (iS : Nat → Nat), u_Kn s zR8 zT8 21 cC iS := u_known (n := 21) hts (fun w hw => (zl8 w hw).1) (hts (.instantiable zR8 21) (by decide +kernel))
theorem st_c9 (hts : ∀ w ∈ lw_tbl, w.before args s = true) : ∃ (cC : ClassId) (iS : Nat → Nat), u_Kn s zR9 zT9 0 cC iS := u_known (n := 6) hts (fun w hw => by simp [u_ws] at hw) (hts (.instantiable zR9 6) (by decide +kernel))
theorem st_c10 (hts : ∀ w ∈ lw_tbl, w.before args s = true) : ∃ (cC : ClassId) (iS : Nat → Nat), u_Kn s zR10 zT10 0 cC iS := u_known (n := 6) hts (fun w hw => by simp [u_ws] at hw) (hts (.instantiable zR10 6) (by decide +kernel))
theorem st_c11 (hts : ∀ w ∈ lw_tbl, w.before args s = true) : ∃ (cC : ClassId) (iS : Nat → Nat), u_Kn s zR11 zT11 0 cC iS := u_known (n := 6) hts (fun w hw => by simp [u_ws] at hw) (hts (.instantiable zR11 6) (by decide +kernel))
theorem st_c12 (hts : ∀ w ∈ lw_tbl, w.before args s = true) : ∃ (cC : ClassId) (iS : Nat → Nat), u_Kn s zR12 zT12 0 cC iS := u_known (n := 6) hts (fun w hw => by simp [u_ws] at hw) (hts (.instantiable zR12 6) (by decide +kernel))
theorem st_cls (hts : ∀ w ∈ lw_tbl, w.before args s = true) : ∃ (dC : Nat → ClassId) (dI : Nat → Nat → Nat), ∀ (k : Nat) (q : vw_C), zd_cl[k]? = some q → u_Kn s q.1 q.2.1 q.2.2 (dC k) (dI k) := by
  have h : ∀ k : Nat, ∃ (c : ClassId) (i : Nat → Nat), ∀ q : vw_C, zd_cl[k]? = some q → u_Kn s q.1 q.2.1 q.2.2 c i := by
    intro k
    match k with
    | 0 => obtain ⟨c, i, e⟩ := st_c0 hts; exact ⟨c, i, fun q hq => by cases hq; exact e⟩
    | 1 => obtain ⟨c, i, e⟩ := st_c1 hts; exact ⟨c, i, fun q hq => by cases hq; exact e⟩
    | 2 => obtain ⟨c, i, e⟩ := st_c2 hts; exact ⟨c, i, fun q hq => by cases hq; exact e⟩
    | 3 => obtain ⟨c, i, e⟩ := st_c3 hts; exact ⟨c, i, fun q hq => by cases hq; exact e⟩
    | 4 => obtain ⟨c, i, e⟩ := st_c4 hts; exact ⟨c, i, fun q hq => by cases hq; exact e⟩
    | 5 => obtain ⟨c, i, e⟩ := st_c5 hts; exact ⟨c, i, fun q hq => by cases hq; exact e⟩
    | 6 => obtain ⟨c, i, e⟩ := st_c6 hts; exact ⟨c, i, fun q hq => by cases hq; exact e⟩
    | 7 => obtain ⟨c, i, e⟩ := st_c7 hts; exact ⟨c, i, fun q hq => by cases hq; exact e⟩
    | 8 => obtain ⟨c, i, e⟩ := st_c8 hts; exact ⟨c, i, fun q hq => by cases hq; exact e⟩
    | 9 => obtain ⟨c, i, e⟩ := st_c9 hts; exact ⟨c, i, fun q hq => by cases hq; exact e⟩
    | 10 => obtain ⟨c, i, e⟩ := st_c10 hts; exact ⟨c, i, fun q hq => by cases hq; exact e⟩
    | 11 => obtain ⟨c, i, e⟩ := st_c11 hts; exact ⟨c, i, fun q hq => by cases hq; exact e⟩
    | 12 => obtain ⟨c, i, e⟩ := st_c12 hts; exact ⟨c, i, fun q hq => by cases hq; exact e⟩
    | n + 13 => obtain ⟨c, i, -⟩ := st_c0 hts; exact ⟨c, i, fun q hq => by simp [zd_cl] at hq⟩
  exact ⟨fun k => (h k).choose, fun k => (h k).choose_spec.choose, fun k q hq => (h k).choose_spec.choose_spec q hq⟩
theorem st_arrs (hts : ∀ w ∈ lw_tbl, w.before args s = true) : ∃ aK : Nat → ClassId, ∀ (k : Nat) (ty : FieldType), zd_ty[k]? = some ty → ArrOfT s (aK k) ty ∧ va_RA s (aK k) ty := by
  have h : ∀ k : Nat, ∃ c : ClassId, ∀ ty : FieldType, zd_ty[k]? = some ty → ArrOfT s c ty ∧ va_RA s c ty := by
    intro k
    match k with
    | 0 => obtain ⟨c, e⟩ := st_arr (ty := .int) (fun C h => by cases h) (hts _ (by decide +kernel)); exact ⟨c, fun q hq => by cases hq; exact e⟩
    | 1 => obtain ⟨c, e⟩ := st_arr (ty := .char) (fun C h => by cases h) (hts _ (by decide +kernel)); exact ⟨c, fun q hq => by cases hq; exact e⟩
    | 2 => obtain ⟨c, e⟩ := st_arr (ty := .boolean) (fun C h => by cases h) (hts _ (by decide +kernel)); exact ⟨c, fun q hq => by cases hq; exact e⟩
    | 3 => obtain ⟨c, e⟩ := st_arr (ty := .long) (fun C h => by cases h) (hts _ (by decide +kernel)); exact ⟨c, fun q hq => by cases hq; exact e⟩
    | 4 => obtain ⟨c, e⟩ := st_arrO (C := "DecimalDesk$Decimal") (hts _ (by decide +kernel)); exact ⟨c, fun q hq => by cases hq; exact e⟩
    | n + 5 => obtain ⟨c, e⟩ := st_arr (ty := .int) (fun C h => by cases h) (hts _ (by decide +kernel)); exact ⟨c, fun q hq => by simp [zd_ty] at hq⟩
  exact ⟨fun k => (h k).choose, fun k q hq => (h k).choose_spec q hq⟩
theorem st_tens (hgv : (Jvm.Cond.and given_1 narrow_1).before args s = true) : ∃ t, (Term.static "DecimalDesk" "TENS" "[I").eval args s none [] s = some (.ref t) ∧ va_T .int t 10 (fun j => .int (zd_tens j)) (fun q => s.heap.size ≤ q) s s.heap := by
  have hs := flat_of_before _ hgv
  have h1 : (Cond.arrayOf (.static "DecimalDesk" "TENS" "[I") .int).before args s = true := hs _ (by decide +kernel)
  have h2 : (Cond.eq (.length (.static "DecimalDesk" "TENS" "[I")) (.int 10)).before args s = true := hs _ (by decide +kernel)
  have t0 : (Cond.eq (.elem (.static "DecimalDesk" "TENS" "[I") (.int 0)) (.int 1)).before args s = true := hs _ (by decide +kernel)
  have t1 : (Cond.eq (.elem (.static "DecimalDesk" "TENS" "[I") (.int 1)) (.int 10)).before args s = true := hs _ (by decide +kernel)
  have t2 : (Cond.eq (.elem (.static "DecimalDesk" "TENS" "[I") (.int 2)) (.int 100)).before args s = true := hs _ (by decide +kernel)
  have t3 : (Cond.eq (.elem (.static "DecimalDesk" "TENS" "[I") (.int 3)) (.int 1000)).before args s = true := hs _ (by decide +kernel)
  have t4 : (Cond.eq (.elem (.static "DecimalDesk" "TENS" "[I") (.int 4)) (.int 10000)).before args s = true := hs _ (by decide +kernel)
  have t5 : (Cond.eq (.elem (.static "DecimalDesk" "TENS" "[I") (.int 5)) (.int 100000)).before args s = true := hs _ (by decide +kernel)
  have t6 : (Cond.eq (.elem (.static "DecimalDesk" "TENS" "[I") (.int 6)) (.int 1000000)).before args s = true := hs _ (by decide +kernel)
  have t7 : (Cond.eq (.elem (.static "DecimalDesk" "TENS" "[I") (.int 7)) (.int 10000000)).before args s = true := hs _ (by decide +kernel)
  have t8 : (Cond.eq (.elem (.static "DecimalDesk" "TENS" "[I") (.int 8)) (.int 100000000)).before args s = true := hs _ (by decide +kernel)
  have t9 : (Cond.eq (.elem (.static "DecimalDesk" "TENS" "[I") (.int 9)) (.int 1000000000)).before args s = true := hs _ (by decide +kernel)
  refine va_Tof (by decide) h1 (va_eqt h2) ?_ (fun a h z => by omega)
  intro j hj
  match j, hj with
  | 0, _ => exact va_eqt t0
  | 1, _ => exact va_eqt t1
  | 2, _ => exact va_eqt t2
  | 3, _ => exact va_eqt t3
  | 4, _ => exact va_eqt t4
  | 5, _ => exact va_eqt t5
  | 6, _ => exact va_eqt t6
  | 7, _ => exact va_eqt t7
  | 8, _ => exact va_eqt t8
  | 9, _ => exact va_eqt t9
theorem st_hw (hts : ∀ w ∈ lw_tbl, w.before args s = true) (hgv : (Jvm.Cond.and given_1 narrow_1).before args s = true) : ∀ w ∈ zd_hw, w.before args s = true := by
  have hs := flat_of_before _ hgv
  have h1 : (Cond.isRef (.static "java/lang/Throwable" "UNASSIGNED_STACK" "[Ljava/lang/StackTraceElement;")).before args s = true := hs _ (by decide +kernel)
  have h2 : (Cond.isRef (.static "java/lang/Throwable" "SUPPRESSED_SENTINEL" "Ljava/util/List;")).before args s = true := hs _ (by decide +kernel)
  have h3 := hts (.laysStatic "java/lang/Throwable" "UNASSIGNED_STACK" "[Ljava/lang/StackTraceElement;") (by decide +kernel)
  have h4 := hts (.laysStatic "java/lang/Throwable" "SUPPRESSED_SENTINEL" "Ljava/util/List;") (by decide +kernel)
  exact List.forall_mem_cons.mpr ⟨h1, List.forall_mem_cons.mpr ⟨h2, List.forall_mem_cons.mpr ⟨h3, List.forall_mem_cons.mpr ⟨h4, fun _ h => absurd h List.not_mem_nil⟩⟩⟩⟩
end ZS
theorem st_not {s : State} {args : Array Value} (hgv : (Jvm.Cond.and given_1 narrow_1).before args s = true) : ∀ i, 9 ≤ i → i ≤ 12 → ∀ j, 9 ≤ j → j ≤ 12 → i ≠ j → (Cond.not (.castable (zd_nm i) (zd_nm j))).before args s = true := by
  have hs := flat_of_before _ hgv
  intro i a1 a2 j b1 b2 hne
  have hi : i = 9 ∨ i = 10 ∨ i = 11 ∨ i = 12 := by omega
  have hj : j = 9 ∨ j = 10 ∨ j = 11 ∨ j = 12 := by omega
  rcases hi with rfl | rfl | rfl | rfl <;> rcases hj with rfl | rfl | rfl | rfl <;> first | exact absurd rfl hne | exact hs _ (by decide +kernel)
theorem st_all {s : State} {b : Nat} (hts : ∀ w ∈ lw_tbl, w.before #[Value.ref b] s = true) (hgv : (Jvm.Cond.and given_1 narrow_1).before #[Value.ref b] s = true) : ∃ B : zd_B, B.1 = s ∧ B.2.1 = b ∧ zd_G B ∧ zd_N B := by
  obtain ⟨dC, dI, hK⟩ := st_cls hts
  obtain ⟨aK, hA⟩ := st_arrs hts
  obtain ⟨t, ht, cell, h1, h2, h3, h4, h5, h6, -⟩ := st_tens hgv
  refine ⟨(s, b, dC, dI, aK, t), rfl, rfl, ⟨hts, hK, hA, ?_, ⟨cell, h1, h2, h3, h5, h4, h6⟩, fun own k tx hm => st_str (hts _ hm), st_hw hts hgv⟩, st_not hgv⟩
  exact va_Zref (hts (.laysStatic "DecimalDesk" "TENS" "[I") (by decide +kernel)) (hts (.initialized "DecimalDesk") (by decide +kernel)) ht (fun a h z => Nat.not_le.mpr h z)
theorem sb_old {s t : State} {Lx : List Loc} {k n k' n' : Nat} (h : s.sameButNew t Lx k n) (hl : ∀ q ∈ Lx, s.heap.size ≤ q.base) (hk : k ≤ k') (hn : n ≤ n') : s.sameButNew t [] k' n' := by
  obtain ⟨h1, h2, h3, h4, h5, h6⟩ := h
  refine ⟨h1, h2, by omega, h4, by omega, fun a c hc => ?_⟩
  obtain ⟨c', g1, g2, g3, g4⟩ := h6 a c hc
  refine ⟨c', g1, g2, g3, fun i _ => g4 i (fun z => ?_)⟩
  have e1 : s.heap.size ≤ a := hl _ z
  have e2 := (Array.getElem?_eq_some_iff.mp hc).1
  omega

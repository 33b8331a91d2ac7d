/-! rows copied, rows of objects -/
section ZC
variable {l : Launch} {B : zd_B} {y : zd_Y} {pc : Nat}
def oc_copy (B : zd_B) (nx : Nat) : zd_S := fun K ls st h _ => match st with
  | .int n :: .int dp :: .ref a1 :: .int sp :: .ref a0 :: r => ∃ k0 f k1 g, zd_Ai B h a0 0 k0 f ∧ zd_Ai B h a1 0 k1 g ∧ (¬ sp < 0 ∧ ¬ dp < 0 ∧ ¬ n < 0 ∧ sp.toNatClampNeg + n.toNatClampNeg ≤ k0 ∧ dp.toNatClampNeg + n.toNatClampNeg ≤ k1 ∧ (r.map fun v => v.category).sum ≤ 8) ∧ K nx ls r (zd_set h a1 (.inr (.inl (0, k1, va_cpy f g sp.toNatClampNeg dp.toNatClampNeg n.toNatClampNeg))))
  | _ => False
theorem ok_copy (hG : zd_G B) {idx : Nat} (hl : Cond.methodLink (zd_yn y).cls idx ⟨"java/lang/System", "arraycopy", "(Ljava/lang/Object;ILjava/lang/Object;II)V"⟩ ∈ lw_tbl) (hna : Cond.native ⟨"java/lang/System", "arraycopy", "(Ljava/lang/Object;ILjava/lang/Object;II)V"⟩ ∈ lw_tbl) (hst : Cond.static ⟨"java/lang/System", "arraycopy", "(Ljava/lang/Object;ILjava/lang/Object;II)V"⟩ ∈ lw_tbl) (hini : Cond.initialized "java/lang/System" ∈ lw_tbl) (hfr : 1 ≤ zd_yf y) (hwo : 40 ≤ zd_yw y) (hd : decode (zd_yb y) pc = .ok (.invokestatic idx, 3)) : zd_ok l B y pc (oc_copy B (pc + 3)) := by
  intro K ls st h Q hK q
  unfold oc_copy at q
  split at q
  · rename_i n dp a1 sp a0 r
    obtain ⟨k0, f, k1, g, ho0, ho1, ⟨h1, h2, h3, h4, h5, hr8⟩, q⟩ := q
    intro p e R s m args below meth c c0 n0 hX hc H locs arr hR hL hA
    have b0 := hX.2.2.2.2.2.2.2.2.2.1
    have b00 := hX.2.2.2.2.2.2.2.2.2.2.1
    have nn : ∀ z : Int32, ¬ z < 0 → z.toInt = (z.toNatClampNeg : Int) := by
      intro z hz
      have hz0 : (0 : Int) ≤ z.toInt := by
        have := Int32.not_lt.mp hz
        simpa using Int32.le_iff_toInt_le.mp this
      show z.toInt = ((z.toInt.toNat : Nat) : Int)
      omega
    have hc0 : H[a0]? = some (arrV (zd_aK B 0) k0 (fun j => .int (f j))) := by
      have := hR.2.1 a0 ho0.1
      rw [ho0.2] at this
      exact this
    have hc1 : H[a1]? = some (arrV (zd_aK B 0) k1 (fun j => .int (g j))) := by
      have := hR.2.1 a1 ho1.1
      rw [ho1.2] at this
      exact this
    intro T hT X
    obtain ⟨-, kk0, hk0, cm0, hkk0⟩ := zd_arr hG hX (k := 0) rfl k0 (fun j => .int (f j))
    obtain ⟨-, kk1, hk1, cm1, hkk1⟩ := zd_arr hG hX (k := 0) rfl k1 (fun j => .int (g j))
    obtain ⟨vm', X', step⟩ := X.arraycopy hX.1 (zd_own hX) (zd_wd hG hX hl (Or.inl (by first | rfl | simp [Cond.onTables, Cond.keeps, Cond.steady])) args) (zd_wd hG hX hna (Or.inl (by first | rfl | simp [Cond.onTables, Cond.keeps, Cond.steady])) args) (zd_wd hG hX hst (Or.inl (by first | rfl | simp [Cond.onTables, Cond.keeps, Cond.steady])) args) (zd_wd hG hX hini (Or.inl (by first | rfl | simp [Cond.onTables, Cond.keeps, Cond.steady])) args) (src := a0) (dst := a1) (cs := arrV (zd_aK B 0) k0 (fun j => .int (f j))) (cd := arrV (zd_aK B 0) k1 (fun j => .int (g j))) (srcPos := sp) (destPos := dp) (n := n) (by rw [hT]; exact hc0) (by rw [hT]; exact hc1)
      (fun _ h => by cases h) (fun _ h => by cases h) (fun h => by cases h) (fun h => by cases h) hk0 hk1 hkk0 hkk1 (by simp [refKind]) h1 h2 h3
      (by rw [nn sp h1, nn n h3]; show ¬ _ > ((arrV (zd_aK B 0) k0 (fun j => .int (f j))).slots.size : Int); rw [arrV_size]; omega)
      (by rw [nn dp h2, nn n h3]; show ¬ _ > ((arrV (zd_aK B 0) k1 (fun j => .int (g j))).slots.size : Int); rw [arrV_size]; omega)
      (fun vm₁ _ i hi => by
        have e : (arrV (zd_aK B 0) k0 (fun j => .int (f j))).slots.getD (sp.toNatClampNeg + i) .null = .int (f (sp.toNatClampNeg + i)) := by
          rw [Array.getD_eq_getD_getElem?, arrV_read _ _ (by omega)]
          rfl
        refine ⟨?_, ?_⟩
        · rw [e]
          rfl
        · rw [e]
          exact trivial)
      (g := F0 m pc arr (.int n :: .int dp :: .ref a1 :: .int sp :: .ref a0 :: r)) rfl (hA.1.trans hX.2.2.1.symm) (rest := r) rfl (by rw [hX.2.1]; exact hd) (by omega) (by show 2 * 0 + _ + (5 + 2 + 11) ≤ _; omega)
    have e1 : copied (arrV (zd_aK B 0) k0 (fun j => .int (f j))) (arrV (zd_aK B 0) k1 (fun j => .int (g j))) sp dp n = arrV (zd_aK B 0) k1 (fun j => .int (va_cpy f g sp.toNatClampNeg dp.toNatClampNeg n.toNatClampNeg j)) := va_copied (fun z => .int z) _ _ f g h4
    rw [e1] at X' step
    have hlt : a1 < H.size := (Array.getElem?_eq_some_iff.mp hc1).1
    have hheap : ((T.setVm vm').setCell a1 (arrV (zd_aK B 0) k1 (fun j => .int (va_cpy f g sp.toNatClampNeg dp.toNatClampNeg n.toNatClampNeg j)))).heap = H.setIfInBounds a1 (arrV (zd_aK B 0) k1 (fun j => .int (va_cpy f g sp.toNatClampNeg dp.toNatClampNeg n.toNatClampNeg j))) := by rw [← hT]; rfl
    obtain ⟨t, x1, x2⟩ := hK _ _ _ _ q p e R s m args below meth c c0 n0 hX hc _ _ arr (hR.set ho1.1 (show (H.setIfInBounds a1 _)[a1]? = some _ by simp [Array.getElem?_setIfInBounds, hlt]) (by simp) (fun z hz => by simp [Array.getElem?_setIfInBounds, Ne.symm hz])) (fun z hz => by
        rcases List.mem_append.mp hz with hz | hz
        · exact hL z hz
        · obtain ⟨w, -, hw⟩ := List.mem_map.mp hz
          rw [← hw]
          exact ho1.1.1) hA _ hheap X'
    exact ⟨t, step t x1, x2⟩
  · exact q.elim
end ZC

/-! rows of references -/
section YD
variable {l : Launch} {B : zd_B} {y : zd_Y} {pc : Nat}
theorem ok_anew (hG : zd_G B) {idx : Nat} (hk : Cond.classLink (zd_yn y).cls idx "DecimalDesk$Decimal" ∈ lw_tbl) (hw : Cond.arrayOver (.object "DecimalDesk$Decimal") ∈ lw_tbl) (hd : decode (zd_yb y) pc = .ok (.anewarray idx, 3)) : zd_ok l B y pc (oc_anew B (pc + 3)) := by
  intro K ls st h Q hK q
  unfold oc_anew at q
  split at q
  · rename_i n r
    obtain ⟨⟨hn, hb, q1, q2⟩, q3⟩ := q
    intro p e R s m args below meth c c0 n0 hX hc H locs arr hR hL hA
    have b1 := hX.2.2.2.2.2.2.2.2.2.2.2.1
    have b2 := hX.2.2.2.2.2.2.2.2.2.2.2.2.1
    have hov : va_AO "DecimalDesk$Decimal" s := va_AO.moved hX.2.2.2.2.2.2.2.1.alike (va_AO.of (hG.1 _ hw))
    refine W.anew hX.1 hX.2.1 (zd_own hX) (zd_wd hG hX hk (Or.inl (by first | rfl | simp [Cond.onTables, Cond.keeps, Cond.steady])) args) (va_AO.use hov) (g := F0 m pc arr (.int n :: r)) rfl hd rfl hn (by omega) (by omega) (by omega) fun cA kA comp f1 f2 f3 f4 => ?_
    obtain ⟨kA', comp', g1, g2, g3, g4⟩ := zd_ra hG hX (k := 4) (ty := .object "DecimalDesk$Decimal") rfl
    have hcA : cA = zd_aK B 4 := Option.some.inj (f1.symm.trans g4)
    subst hcA
    generalize hH1 : H.push ({ cls := zd_aK B 4, slots := Array.replicate n.toNatClampNeg .null, vm := .none } : Cell) = H1
    have z1 : H1.size = H.size + 1 := by rw [← hH1, Array.size_push]
    have e1 : H1[H.size]? = some (arrV (zd_aK B 4) n.toNatClampNeg (fun _ => .null)) := by rw [← hH1, Array.getElem?_push_size, ← arrV_new]
    have o1 : ∀ q : Nat, q < H.size → H1[q]? = H[q]? := fun q hq => by rw [← hH1, Array.getElem?_push, if_neg (Nat.ne_of_lt hq)]
    refine W.cs (cells' := h.1 + 1 - c0) (slots' := h.2.1 + n.toNatClampNeg - n0) (by omega) (by omega) ?_
    rw [hR.1] at z1 e1 o1
    have := hK _ _ _ _ q3 p e R s m args below meth c c0 n0 hX ⟨by show c0 ≤ h.1 + 1; omega, by show n0 ≤ h.2.1 + n.toNatClampNeg; omega, q1, q2⟩ H1 locs arr (hR.push hR.1 e1 z1 o1) hL hA
    rw [show (Value.ref H.size) = .ref (zd_b0 B + h.1) by rw [hR.1]]
    exact this
  · exact q.elim
def oc_aastore (B : zd_B) (nx : Nat) : zd_S := fun K ls st h _ => match st with
  | .ref v :: .int i :: .ref a :: r => ∃ n f fs, zd_Ar B h a n f ∧ vp_in i n ∧ zd_Ob B h v 1 fs ∧ K nx ls r (zd_set h a (.inr (.inr (.inr (n, fun j => if j = i.toNatClampNeg then some v else f j)))))
  | _ => False
theorem ok_aastore (hG : zd_G B) (hd : decode (zd_yb y) pc = .ok (.aastore, 1)) : zd_ok l B y pc (oc_aastore B (pc + 1)) := by
  intro K ls st h Q hK q
  unfold oc_aastore at q
  split at q
  · rename_i v i a r
    obtain ⟨n, f, fs, ho, hin, hob, q⟩ := q
    intro p e R s m args below meth c c0 n0 hX hc H locs arr hR hL hA
    have hlt : i.toNatClampNeg < n := Nat.not_le.mp fun z => hin (Or.inr z)
    have h0 : ¬ i < 0 := fun z => hin (Or.inl z)
    have hcell : H[a]? = some (arrV (zd_aK B 4) n (fun j => va_rf (f j))) := by
      have := hR.2.1 a ho.1
      rw [ho.2] at this
      exact this
    obtain ⟨r', hr', cellV, g1, g2, g3, -⟩ := hR.ob hob 0 _ rfl
    have hcl : zd_cl[1]? = some (zR1, zT1, 3) := rfl
    have hcls := ((zd_kn hG hX).1 1 _ hcl).2
    obtain ⟨kA, comp, k1, k2, k3, -⟩ := zd_ra hG hX (k := 4) (ty := .object "DecimalDesk$Decimal") rfl
    have hcomp : comp = zd_dC B 1 := Option.some.inj (k3.symm.trans hcls.1)
    subst hcomp
    obtain ⟨kC, hkC, -⟩ := hcls.2
    refine W.aast hX.1 hX.2.1 hcell (fun q h => by cases h) (fun h => by cases h) k1 k2 rfl hkC ⟨h0, by rw [arrV_size]; exact hlt⟩ g1 (fun q h => by rw [g3] at h; cases h) (by rw [g2]; exact hkC) (by rw [g2]; exact va_assign hcls) rfl rfl hd fun H' e1 e2 e3 => ?_
    rw [arrV_store] at e1
    have e1' : H'[a]? = some (arrV (zd_aK B 4) n (fun j => va_rf (if j = i.toNatClampNeg then some v else f j))) := by
      rw [e1]
      congr 2
      funext q
      by_cases hq : q = i.toNatClampNeg
      · subst hq
        simp [updV, va_rf]
      · simp [updV, hq]
    refine hK _ _ _ _ q p e R s m args below meth c c0 n0 hX hc H' _ arr (hR.set ho.1 e1' e2 e3) ?_ hA
    intro z hz
    rcases List.mem_append.mp hz with hz | hz
    · exact hL z hz
    · rw [List.mem_singleton.mp hz]; exact ho.1.1
  · exact q.elim
end YD

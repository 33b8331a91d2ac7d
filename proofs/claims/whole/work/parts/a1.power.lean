/-! the text: a power of ten -/
theorem abs_nI {e : Int} (re : iR e) : (if 0 ≤ iI e then iI e else -iI e) = nI e.natAbs := by
  have r0 : iR 0 := ⟨by decide, by decide⟩
  rw [iI_nI, show (0 : Int32) = iI 0 from rfl]
  by_cases q : 0 ≤ e
  · rw [if_pos ((iI_le r0 re).mpr q)]
    congr 1
    omega
  · rw [if_neg (fun z => q ((iI_le r0 re).mp z)), iI_neg]
    congr 1
    omega
section XE
variable {l : Launch} {B : zd_B} {h : zd_H} {Q : zd_O → zd_H → Prop}
theorem w_pw34 (hG : zd_G B) (hl : l.stackTraces = false) {x1 : Int32} {v : Nat} (hv : v < 100000) (hv0 : v ≠ 0) (hq : zd_W l B m_Te_appendPower 53 [some (.ref (zd_b0 B + 34)), some (.int x1), some (.int (nI v)), some (.int (nI (dg v - 1))), none] [] h Q) :
    ∀ p, dg v - 1 ≤ p → p ≤ 9 → zd_W l B m_Te_appendPower 34 [some (.ref (zd_b0 B + 34)), some (.int x1), some (.int (nI v)), some (.int (nI p)), none] [] h Q := by
  have h1 := dg_pos v
  intro p
  induction p with
  | zero =>
    intro a b
    have e : dg v - 1 = 0 := by omega
    rw [e] at hq
    refine zd_go (ok_Te_appendPower hG hl) [53] 60 ?_
    conv => whnf
    refine ⟨fun _ => ?_, fun z => absurd (by decide) z⟩
    conv => whnf
    refine ⟨?_, trivial⟩
    exact hq
  | succ p ih =>
    intro a b
    have ht := zd_tens_lt (i := p + 1) (by omega)
    refine zd_go (ok_Te_appendPower hG hl) [34, 53] 60 ?_
    conv => whnf
    refine ⟨fun z => absurd ((nI_leI (b := 0) (by omega) (by decide)).mp z) (by omega), fun _ => ?_⟩
    conv => whnf
    refine ⟨10, _, Or.inr hG.2.2.2.2.1, vp_in_nI (by omega) (by omega), ?_⟩
    rw [nI_clamp (by omega), show zd_tens (p + 1) = nI (10 ^ (p + 1)) from rfl]
    conv => whnf
    by_cases hd : dg v - 1 = p + 1
    · have hge : 10 ^ (p + 1) ≤ v := by
        have := dg_ge v (by omega)
        rwa [hd] at this
      rw [hd] at hq
      refine ⟨fun _ => ?_, fun z => absurd ((nI_leI (by omega) (by omega)).mpr hge) z⟩
      refine ⟨?_, trivial⟩
      exact hq
    · have hlt : v < 10 ^ (p + 1) := Nat.lt_of_lt_of_le (dg_lt v) (Nat.pow_le_pow_right (by decide) (by omega))
      refine ⟨fun z => absurd ((nI_leI (by omega) (by omega)).mp z) (by omega), fun _ => ?_⟩
      conv => whnf
      refine ⟨?_, trivial⟩
      rw [iI_nI (p + 1), iI_m1, show ((p + 1 : Nat) : Int) - 1 = (p : Int) by omega, ← iI_nI]
      exact ih (by omega) (by omega)
theorem w_pw56 (hG : zd_G B) (hl : l.stackTraces = false) {x1 x3 : Int32} {v k cap : Nat} {L : List Nat} {h : zd_H} (hv : v < 100000) (hv0 : v ≠ 0) (hk : 34 < k) (hcap : cap ≤ 11020) (hL : L.length + 10 ≤ cap)
    (hq : ∀ h', Fg B h h' (TS B k) 0 → Tx B h' k cap (L ++ decs v (dg v)) → Q (.inl none) h') :
    ∀ (d j : Nat) (h1 : zd_H), j + d = dg v → Fg B h h1 (TS B k) 0 → Tx B h1 k cap (L ++ decs v j) → zd_W l B m_Te_appendPower 56 [some (.ref (zd_b0 B + 34)), some (.int x1), some (.int (nI v)), some (.int x3), some (.int (iI ((dg v : Int) - 1 - j)))] [] h1 Q := by
  have h5 : dg v ≤ 5 := dgle (by decide) (Nat.lt_of_lt_of_le hv (by decide))
  intro d
  induction d with
  | zero =>
    intro j h1 hj f1 t1
    have e : j = dg v := by omega
    subst e
    rw [show (dg v : Int) - 1 - (dg v : Int) = -1 by omega]
    refine zd_go (ok_Te_appendPower hG hl) [] 60 ?_
    conv => whnf
    refine ⟨fun _ => ?_, fun z => absurd (by decide) z⟩
    conv => whnf
    exact ⟨hq _ f1 t1, trivial⟩
  | succ d ih =>
    intro j h1 hj f1 t1
    have ht := zd_tens_lt (i := dg v - 1 - j) (by omega)
    have hp := pow10_pos (dg v - 1 - j)
    have hdv := Nat.div_le_self v (10 ^ (dg v - 1 - j))
    have hd9 := td_lt v (dg v) j
    obtain ⟨f, o1, o2, o3, o4⟩ := id t1
    rw [show (dg v : Int) - 1 - (j : Int) = ((dg v - 1 - j : Nat) : Int) by omega, ← iI_nI]
    refine zd_go (ok_Te_appendPower hG hl) [56] 60 ?_
    conv => whnf
    refine ⟨fun z => absurd ((nI_ltI (b := 0) (by omega) (by decide)).mp z) (by omega), fun _ => ?_⟩
    conv => whnf
    refine ⟨10, _, Or.inr hG.2.2.2.2.1, vp_in_nI (by omega) (by omega), ?_⟩
    rw [nI_clamp (by omega), show zd_tens (dg v - 1 - j) = nI (10 ^ (dg v - 1 - j)) from rfl]
    conv => whnf
    refine ⟨nI_ne0 hp (by omega), ?_⟩
    conv => whnf
    rw [nI_dv (by omega) (by omega) hp]
    refine ⟨by decide, ?_⟩
    conv => whnf
    rw [show (10 : Int32) = nI 10 from rfl, nI_rm (by omega) (by decide) (by decide), show (48 : Int32) + nI (v / 10 ^ (dg v - 1 - j) % 10) = nI (48 + td v (dg v) j) from nI_add 48 _, i2c_m (by omega)]
    refine ⟨⟨_, o1⟩, ⟨rfl, Nat.le_of_ble_eq_true rfl, Nat.le_of_ble_eq_true rfl⟩, ?_⟩
    refine te_append hG hl hk t1 hcap (by rw [List.length_append, decs_len]; omega) (by omega) (fun h2 f2 t2 => ?_)
    conv => whnf
    refine ⟨?_, trivial⟩
    rw [show L ++ decs v j ++ [48 + td v (dg v) j] = L ++ decs v (j + 1) from List.append_assoc _ _ _] at t2
    rw [iI_nI (dg v - 1 - j), iI_m1, show ((dg v - 1 - j : Nat) : Int) - 1 = (dg v : Int) - 1 - ((j + 1 : Nat) : Int) by omega]
    exact ih (j + 1) h2 (by omega) (f1.tr0 f2) t2
theorem te_power (hG : zd_G B) (hl : l.stackTraces = false) {k cap : Nat} {L : List Nat} {e : Int} (he : -50000 < e ∧ e < 50000) (hk : 34 < k) (hT : Tx B h k cap L) (hcap : cap ≤ 11020) (hL : L.length + 12 ≤ cap)
    (hq : ∀ h', Fg B h h' (TS B k) 0 → Tx B h' k cap (L ++ (if e = 0 then [] else expo e)) → Q (.inl none) h') : zd_M l B m_Te_appendPower [.ref (zd_b0 B + 34), .int (iI e)] h Q := by
  have r0 : iR 0 := ⟨by decide, by decide⟩
  have re : iR e := ⟨by omega, by omega⟩
  by_cases h0 : e = 0
  · subst h0
    rw [if_pos rfl, List.append_nil] at hq
    refine zd_go (ok_Te_appendPower hG hl) [] 60 ?_
    conv => whnf
    refine ⟨fun z => absurd rfl z, fun _ => ?_⟩
    conv => whnf
    exact ⟨hq _ Fg.rf hT, trivial⟩
  · rw [if_neg h0] at hq
    have h5 : dg e.natAbs ≤ 5 := dgle (by decide) (by omega)
    have hp := dg_pos e.natAbs
    obtain ⟨f, o1, o2, o3, o4⟩ := id hT
    have main : ∀ h2 c, c = (if e < 0 then 45 else 43) → Fg B h h2 (TS B k) 0 → Tx B h2 k cap (L ++ [69]) → zd_W l B m_Te_appendPower 23 [some (.ref (zd_b0 B + 34)), some (.int (iI e)), none, none, none] [.int (nI c), .ref (zd_b0 B + 34)] h2 Q := by
      intro h2 c hc f2 t2
      obtain ⟨f', p1, p2, p3, p4⟩ := id t2
      refine zd_go (ok_Te_appendPower hG hl) [34] 60 ?_
      conv => whnf
      refine ⟨⟨_, p1⟩, ⟨rfl, Nat.le_of_ble_eq_true rfl, Nat.le_of_ble_eq_true rfl⟩, ?_⟩
      refine te_append hG hl hk t2 hcap (by rw [List.length_append]; show _ + 1 < _; omega) (by rw [hc]; split <;> decide) (fun h3 f3 t3 => ?_)
      conv => whnf
      refine ⟨⟨rfl, Nat.le_of_ble_eq_true rfl, Nat.le_of_ble_eq_true rfl⟩, ?_⟩
      refine c_Ma_abs hG hl ?_
      rw [abs_nI re]
      conv => whnf
      refine ⟨?_, trivial⟩
      refine w_pw34 hG hl (by omega) (by omega) ?_ 9 (by omega) (by decide)
      refine zd_go (ok_Te_appendPower hG hl) [56] 60 ?_
      conv => whnf
      refine ⟨?_, trivial⟩
      rw [iI_nI (dg e.natAbs - 1), show ((dg e.natAbs - 1 : Nat) : Int) = (dg e.natAbs : Int) - 1 - ((0 : Nat) : Int) by omega]
      refine w_pw56 (h := h) (L := L ++ [69] ++ [c]) (k := k) (cap := cap) hG hl (by omega) (by omega) hk hcap (by rw [List.length_append, List.length_append]; show _ + 1 + 1 + 10 ≤ _; omega) (fun h' f' t' => hq h' f' ?_) (dg e.natAbs) 0 h3 (by omega) (f2.tr0 f3) (by rw [show decs e.natAbs 0 = [] from rfl, List.append_nil]; exact t3)
      rw [hc] at t'
      unfold expo
      rw [← List.append_assoc, ← List.append_assoc]
      exact t'
    refine zd_go (ok_Te_appendPower hG hl) [23] 60 ?_
    conv => whnf
    refine ⟨fun _ => ?_, fun z => absurd ((iI_eq re r0).mp z) h0⟩
    conv => whnf
    refine ⟨⟨_, o1⟩, ⟨rfl, Nat.le_of_ble_eq_true rfl, Nat.le_of_ble_eq_true rfl⟩, ?_⟩
    refine te_append (c := 69) hG hl hk hT hcap (by omega) (by decide) (fun h2 f2 t2 => ?_)
    conv => whnf
    by_cases q : e < 0
    · refine ⟨fun z => absurd ((iI_le r0 re).mp z) (by omega), fun _ => ?_⟩
      conv => whnf
      refine ⟨?_, trivial⟩
      exact main h2 45 (by rw [if_pos q]) f2 t2
    · refine ⟨fun _ => ?_, fun z => absurd ((iI_le r0 re).mpr (by omega)) z⟩
      conv => whnf
      refine ⟨?_, trivial⟩
      exact main h2 43 (by rw [if_neg q]) f2 t2
end XE

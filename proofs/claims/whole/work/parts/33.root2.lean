/-! Rooter: descend -/
def Rtr (B : zd_B) (h : zd_H) : Prop := zd_Ob B h (zd_b0 B + 39) 5 [.ref (zd_b0 B + 36), .ref (zd_b0 B + 40), .ref (zd_b0 B + 42), .ref (zd_b0 B + 44)]
theorem cmpN_ge0 {a b : Nat} : (cmpN a b < 0) ↔ a < b := by
  unfold cmpN
  by_cases h : a < b
  · rw [if_pos h]; exact ⟨fun _ => h, fun _ => by decide⟩
  · rw [if_neg h]
    refine ⟨fun q => ?_, fun q => absurd q h⟩
    split at q <;> exact absurd q (by decide)
theorem cmpN_0 {a b : Nat} : cmpN a b = 0 ↔ a = b := by
  unfold cmpN
  by_cases h : a < b
  · rw [if_pos h]; exact ⟨fun q => absurd q (by decide), fun q => by omega⟩
  · rw [if_neg h]
    by_cases e : a = b
    · rw [if_pos e]; exact ⟨fun _ => e, fun _ => rfl⟩
    · rw [if_neg e]; exact ⟨fun q => absurd q (by decide), fun q => absurd q e⟩
theorem Rm.k0 {B : zd_B} {h h' : zd_H} {S : Nat → Prop} (r : Rm h) (f : Fg B h h' S 0) : Rm h' := r.kept f
abbrev RoL : List Nat := [37, 38, 42, 43, 44, 45, 51, 52]
section RA
variable {l : Launch} {B : zd_B} {h : zd_H} {Q : zd_O → zd_H → Prop}
theorem w_Ro_descend (hG : zd_G B) (hl : l.stackTraces = false) {X s : Nat} (hS : IsS s X) (hX : 0 < X) (hX2 : nl X ≤ 224)
    (hq : ∀ h', Fg B h h' (CL B RoL) 0 → Dvd B h' 36 → Ns B h' 37 226 → Ns B h' 42 226 → Ns B h' 44 226 → Nv B h' 51 226 s → Q (.inl (some (.int (nI (if s * s = X then 1 else 0))))) h') :
    ∀ (e j f : Nat) (h1 : zd_H) (w3 : Option Value), j + e = 1000 → 1 ≤ e → Fg B h h1 (CL B RoL) 0 → Rm h1 → Rtr B h1 → Dvd B h1 36 → Ns B h1 37 226 → Nv B h1 40 226 X → Ns B h1 42 226 → Ns B h1 44 226 → Nv B h1 51 226 f → s ≤ f → nl f ≤ 224 → (f - s < 2 ^ (e - 1) ∨ ((f - s) * (f - s) ≤ s ∧ 3 ≤ e)) →
      zd_W l B m_Ro_descend 2 [some (.ref (zd_b0 B + 39)), some (.ref (zd_b0 B + 51)), some (.int (nI j)), w3] [] h1 Q := by
  have s0 : 0 < s := by
    rcases Nat.eq_zero_or_pos s with e | e
    · have := hS.2
      rw [e] at this
      omega
    · exact e
  intro e
  induction e with
  | zero => intro j f h1 w3 hj he; omega
  | succ e ih =>
    intro j f h1 w3 hj he fr hr hO hD hT hH hA hR hF hsf hf2 hb
    obtain ⟨fsA, obA⟩ := hA.ob
    refine zd_go (ok_Ro_descend hG hl) [2] 60 ?_
    conv => whnf
    refine ⟨fun z => absurd z (nI_ge (b := 1000) (by omega) (by omega)), fun z => ?_⟩
    conv => whnf
    refine ⟨_, hO, ?_⟩
    conv => whnf
    refine ⟨_, hO, ?_⟩
    conv => whnf
    refine ⟨⟨_, obA⟩, ⟨rfl, Nat.le_of_ble_eq_true rfl, Nat.le_of_ble_eq_true rfl⟩, ?_⟩
    refine v_copy hG hl hA hH (by omega) hr (fun h2 a1 a2 a3 => ?_) (fun h2 a1 a2 => absurd hH.nl (by omega))
    have c2 := a2.mono (NS.cl (ks := RoL) (by decide))
    have hO2 : Rtr B h2 := a2.ob hO (NS_o (by omega))
    have hD2 := hD.kept a2 (NS_o (by omega))
    have hT2 := hT.kept a2 (NS_n (by omega)).1 (NS_n (by omega)).2
    have hH2 := hH.kept a2 (NS_n (by omega)).1 (NS_n (by omega)).2
    have hR2 := hR.kept a2 (NS_n (by omega)).1 (NS_n (by omega)).2
    have hF2 := hF.kept a2 (NS_n (by omega)).1 (NS_n (by omega)).2
    have f2 := fr.tr0 c2
    conv => whnf
    refine ⟨_, hO2, ?_⟩
    conv => whnf
    refine ⟨_, hO2, ?_⟩
    conv => whnf
    refine ⟨_, hO2, ?_⟩
    conv => whnf
    refine ⟨⟨_, hD2⟩, ⟨rfl, Nat.le_of_ble_eq_true rfl, Nat.le_of_ble_eq_true rfl⟩, ?_⟩
    refine v_split hG hl hD2 hT2 a3 hF2 hR2 (by omega) (by omega) (by omega) (by omega) (by omega) (by omega) (by omega) (by omega) (by omega) (hr.k0 a2) (fun h3 b1 b2 b3 b4 b5 => ?_) (fun h3 b1 b2 => by omega)
    have c3 := b1.mono (DS.cl (ks := RoL) (by decide))
    have d3 := b1.mono (DS.cl (ks := [42, 43, 44, 45, 37, 38]) (by decide))
    have hO3 : Rtr B h3 := d3.obc hO2 (by decide)
    have hH3 := hH2.kc d3 (by decide)
    have hF3 := hF2.kc d3 (by decide)
    have hr3 := (hr.k0 a2).k0 b1
    have f3 := f2.tr0 c3
    obtain ⟨fsR, obR⟩ := b3.ob
    conv => whnf
    refine ⟨_, hO3, ?_⟩
    conv => whnf
    refine ⟨⟨_, obR⟩, ⟨rfl, Nat.le_of_ble_eq_true rfl, Nat.le_of_ble_eq_true rfl⟩, ?_⟩
    refine v_order hG hl b3 hF3 ?_
    conv => whnf
    by_cases hlt : X / f < f
    · refine ⟨fun z => ?_, fun z => absurd (cmpN_ge0.mpr hlt) z⟩
      have hne : f ≠ s := fun q => by
        have := (nw_stop hS hsf (by omega)).mpr q
        omega
      obtain ⟨n1, n2, n3, n4⟩ := nw_step (f := f) hS (by omega)
      obtain ⟨fsF, obF⟩ := hF3.ob
      conv => whnf
      refine ⟨_, hO3, ?_⟩
      conv => whnf
      refine ⟨⟨_, obF⟩, ⟨rfl, Nat.le_of_ble_eq_true rfl, Nat.le_of_ble_eq_true rfl⟩, ?_⟩
      have hnl := nl_mono (Nat.le_of_lt hlt)
      refine v_raiseBy hG hl hF3 b3 (by omega) hr3 (fun h4 d1 d2 => ?_) (fun h4 d1 d2 => by rcases d1 with d1 | d1 <;> omega)
      obtain ⟨fsF4, obF4⟩ := d2.ob
      conv => whnf
      refine ⟨⟨_, obF4⟩, ⟨rfl, Nat.le_of_ble_eq_true rfl, Nat.le_of_ble_eq_true rfl⟩, ?_⟩
      refine v_overSmall (m := 2) hG hl d2 (by omega) (by omega) (fun h5 e1 e2 => ?_)
      conv => whnf
      refine ⟨?_, trivial⟩
      have g5 := d1.tr0 e1
      have c5 := g5.mono (NS.cl (ks := RoL) (by decide))
      have := ih (j + 1) ((f + X / f) / 2) h5 (some (.int (cmpN (X / f) f))) (by omega) (by
          rcases Nat.eq_zero_or_pos e with q | q
          · subst q
            rcases hb with hb | hb
            · have h0 : f - s < 1 := hb
              omega
            · omega
          · exact q) (f3.tr0 c5) (hr3.k0 g5) (g5.ob hO3 (NS_o (by omega))) (b4.kept g5 (NS_o (by omega))) (b5.kept g5 (NS_n (by omega)).1 (NS_n (by omega)).2) (hH3.kept g5 (NS_n (by omega)).1 (NS_n (by omega)).2) (b2.s.kept g5 (NS_n (by omega)).1 (NS_n (by omega)).2) (b3.s.kept g5 (NS_n (by omega)).1 (NS_n (by omega)).2) e2 n1 (Nat.le_trans (nl_mono (Nat.le_of_lt n3)) hf2) (Or.inl (by
          rcases hb with hb | hb
          · have e0 : 1 ≤ e := by
              rcases Nat.eq_zero_or_pos e with q | q
              · subst q
                have h0 : f - s < 1 := hb
                omega
              · exact q
            have h2 : (2 : Nat) ^ (e + 1 - 1) = 2 ^ (e - 1) * 2 := by rw [show e + 1 - 1 = (e - 1) + 1 by omega, Nat.pow_succ]
            rw [h2] at hb
            omega
          · have := n4 hb.1
            have h2 : (2 : Nat) ^ 1 ≤ 2 ^ (e - 1) := Nat.pow_le_pow_right (by decide) (by omega)
            omega))
      rw [← nI_1 j] at this
      exact this
    · have ef : f = s := (nw_stop hS hsf (by omega)).mp (by omega)
      subst ef
      refine ⟨fun z => absurd (cmpN_ge0.mp z) hlt, fun z => ?_⟩
      conv => whnf
      have hm := Nat.div_add_mod X f
      by_cases he2 : X / f = f
      · refine ⟨fun z => absurd (cmpN_0.mpr he2) z, fun z => ?_⟩
        obtain ⟨fsA3, obA3⟩ := b2.ob
        conv => whnf
        refine ⟨_, hO3, ?_⟩
        conv => whnf
        refine ⟨⟨_, obA3⟩, ⟨rfl, Nat.le_of_ble_eq_true rfl, Nat.le_of_ble_eq_true rfl⟩, ?_⟩
        refine v_isZero hG hl b2 ?_
        rw [he2] at hm
        by_cases h0 : X % f = 0
        · have hx : f * f = X := by omega
          have := hq h3 f3 b4 b5 b2.s b3.s hF3
          rw [if_pos hx] at this
          rw [if_pos h0]
          conv => whnf
          refine ⟨fun z => absurd z (by decide), fun z => ?_⟩
          conv => whnf
          refine ⟨rfl, ?_, trivial⟩
          exact this
        · have hx : f * f ≠ X := by omega
          have := hq h3 f3 b4 b5 b2.s b3.s hF3
          rw [if_neg hx, nI_0] at this
          rw [if_neg h0]
          conv => whnf
          refine ⟨fun z => ?_, fun z => absurd rfl z⟩
          conv => whnf
          refine ⟨rfl, ?_, trivial⟩
          exact this
      · refine ⟨fun z => ?_, fun z => absurd (cmpN_0.mp z) he2⟩
        have hx : f * f ≠ X := fun q => he2 (by rw [← q]; exact Nat.mul_div_cancel _ (by omega))
        have := hq h3 f3 b4 b5 b2.s b3.s hF3
        rw [if_neg hx, nI_0] at this
        conv => whnf
        refine ⟨rfl, ?_, trivial⟩
        exact this
theorem c_Ro_descend (hG : zd_G B) (hl : l.stackTraces = false) {X s f : Nat} (hS : IsS s X) (hX : 0 < X) (hX2 : nl X ≤ 224) (hr : Rm h) (hO : Rtr B h) (hD : Dvd B h 36) (hT : Ns B h 37 226) (hH : Nv B h 40 226 X) (hA : Ns B h 42 226) (hR : Ns B h 44 226) (hF : Nv B h 51 226 f) (hsf : s ≤ f) (hf2 : nl f ≤ 224) (hb : f - s < 2 ^ 999 ∨ (f - s) * (f - s) ≤ s)
    (hq : ∀ h', Fg B h h' (CL B RoL) 0 → Dvd B h' 36 → Ns B h' 37 226 → Ns B h' 42 226 → Ns B h' 44 226 → Nv B h' 51 226 s → Q (.inl (some (.int (nI (if s * s = X then 1 else 0))))) h') :
    zd_M l B m_Ro_descend [.ref (zd_b0 B + 39), .ref (zd_b0 B + 51)] h Q := by
  have := w_Ro_descend hG hl hS hX hX2 hq 1000 0 f h none (by omega) (by omega) Fg.rf hr hO hD hT hH hA hR hF hsf hf2 (hb.elim (fun q => Or.inl q) (fun q => Or.inr ⟨q, by omega⟩))
  rw [nI_0] at this
  refine zd_go (ok_Ro_descend hG hl) [2] 60 ?_
  conv => whnf
  exact ⟨this, trivial⟩
end RA

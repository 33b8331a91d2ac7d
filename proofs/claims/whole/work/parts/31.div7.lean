/-! Divider: split, from its entry -/
theorem Ns.keptE {B : zd_B} {h h' : zd_H} {d k R : Nat} (hN : Ns B h k R) (f : Fg B h h' E0 d) : Ns B h' k R := hN.kept f (fun z => z) (fun z => z)
theorem Nv.keptE {B : zd_B} {h h' : zd_H} {d k R V : Nat} (hN : Nv B h k R V) (f : Fg B h h' E0 d) : Nv B h' k R V := hN.kept f (fun z => z) (fun z => z)
theorem nl_pow {V : Nat} : V < 1000000000 ^ nl V := by
  unfold nl
  by_cases e : V = 0
  · rw [if_pos e, e]; decide
  · rw [if_neg e, p9q]
    exact Nat.lt_of_lt_of_le (dg_lt V) (Nat.pow_le_pow_right (by decide) (by omega))
theorem Dvd.kept1 {B : zd_B} {h h' : zd_H} {S : Nat → Prop} {d e : Nat} (a : Dvd B h d) (f : Fg B h h' S e) (hn : ¬ S (zd_b0 B + d)) : Dvd B h' d := f.ob a hn
theorem Fg.c0 {B : zd_B} {h h' : zd_H} {S : Nat → Prop} (f : Fg B h h' S 0) : h'.1 = h.1 := f.1
section DG
variable {l : Launch} {B : zd_B} {h : zd_H} {Q : zd_O → zd_H → Prop}
theorem v_split (hG : zd_G B) (hl : l.stackTraces = false) {d r b s R Rb Rs V W : Nat} (hD : Dvd B h d) (hT : Ns B h (d + 1) 226) (hRv : Nv B h r R V) (hBv : Nv B h b Rb W) (hS : Ns B h s Rs) (hW : W ≠ 0) (hRR : R ≤ Rs) (hW2 : nl W ≤ 226)
    (hrd : r + 1 < d ∨ d + 2 < r) (hsd : s + 1 < d ∨ d + 2 < s) (hrs : r + 1 < s ∨ s + 1 < r) (hbr : b + 1 < r ∨ r + 1 < b) (hbs : b + 1 < s ∨ s + 1 < b) (hbd : b + 1 < d ∨ d + 2 < b) (hr : Rm h)
    (hq : ∀ h', Fg B h h' (DS B r s d) 0 → Nv B h' r R (V % W) → Nv B h' s Rs (V / W) → Dvd B h' d → Ns B h' (d + 1) 226 → Q (.inl none) h')
    (hth : ∀ h', nl W ≤ nl V → R < nl V + 1 → Fx B h h' (DS B r s d) 11 → Ns B h' r R → Ns B h' s Rs → Dvd B h' d → Ns B h' (d + 1) 226 → Q (.inr (zd_b0 B + h.1, 11)) h') :
    zd_M l B m_Dv_split [.ref (zd_b0 B + d), .ref (zd_b0 B + r), .ref (zd_b0 B + b), .ref (zd_b0 B + s)] h Q := by
  obtain ⟨gr, L, hN, hz, hv⟩ := hRv
  obtain ⟨gb, m, hB, hzb, hvb⟩ := hBv
  obtain ⟨gs, ns, hS0⟩ := hS
  obtain ⟨gt, nt, hT0⟩ := hT
  have eL := nl_eq hN.2.2.2.2 hz
  have em := nl_eq hB.2.2.2.2 hzb
  rw [hv] at eL
  rw [hvb] at em
  have L1 := hN.2.2.1
  have L2 := hN.2.2.2.1
  have m1 := hB.2.2.1
  have m2 := hB.2.2.2.1
  have hm : 0 < m := by
    rcases Nat.eq_zero_or_pos m with e | e
    · exact absurd (nl_eq0.mp (em ▸ e)) hW
    · exact e
  have hzb' : gb (m - 1) ≠ 0 := by rcases hzb with e | e; omega; exact e
  have nrs := NS_n (B := B) (k := r) (j := s) (by omega)
  have nrd := NS_n (B := B) (k := r) (j := d + 1) (by omega)
  have nrb := NS_n (B := B) (k := r) (j := b) (by omega)
  have nsr := NS_n (B := B) (k := s) (j := r) (by omega)
  have nsd := NS_n (B := B) (k := s) (j := d + 1) (by omega)
  have nsb := NS_n (B := B) (k := s) (j := b) (by omega)
  have ndr := NS_n (B := B) (k := d + 1) (j := r) (by omega)
  have nds := NS_n (B := B) (k := d + 1) (j := s) (by omega)
  have ndb := NS_n (B := B) (k := d + 1) (j := b) (by omega)
  have sS : ∀ q, NS B s q → DS B r s d q := fun q z => Or.inr (Or.inl z)
  have sR : ∀ q, NS B r q → DS B r s d q := fun q z => Or.inl z
  have sD : ∀ q, NS B (d + 1) q → DS B r s d q := fun q z => Or.inr (Or.inr z)
  refine zd_go (ok_Dv_split hG hl) [106] 60 ?_
  conv => whnf
  refine ⟨_, hB.1, ?_⟩
  conv => whnf
  refine ⟨fun z => ?_, fun z => absurd z (nI_ne0 hm (by omega))⟩
  conv => whnf
  refine ⟨⟨_, hS0.1⟩, ⟨rfl, Nat.le_of_ble_eq_true rfl, Nat.le_of_ble_eq_true rfl⟩, ?_⟩
  refine c_Na_claim (w := 0) hG hl hS0 (by omega) hr (fun h1 a1 a2 a3 => ?_) (fun h1 a1 a2 => by omega)
  have hN1 := hN.kept a2 nsr.1 nsr.2
  have hB1 := hB.kept a2 nsb.1 nsb.2
  have hT1 := hT0.kept a2 nsd.1 nsd.2
  have hD1 := hD.kept a2 (NS_o (by omega))
  have f1 := a2.mono sS
  have hr1 := hr.kept a2
  conv => whnf
  refine ⟨_, hN1.1, ?_⟩
  conv => whnf
  refine ⟨_, hB1.1, ?_⟩
  conv => whnf
  refine ⟨fun z => ?_, fun z => ?_⟩
  rotate_left
  · have z' : L < m := by
      have : ¬ m ≤ L := fun q => z (nI_le q (by omega))
      omega
    have hlt : V < W := by
      rcases Nat.lt_or_ge V W with c | c
      · exact c
      · have := nl_mono c
        omega
    conv => whnf
    exact ⟨hq h1 f1 ⟨gr, L, hN1, hz, by rw [hv, Nat.mod_eq_of_lt hlt]⟩ ⟨gs, 0, a3, Or.inl rfl, by rw [Nat.div_eq_of_lt hlt]; rfl⟩ hD1 ⟨gt, nt, hT1⟩, trivial⟩
  have mL : m ≤ L := (nI_leI (by omega) (by omega)).mp z
  have tl := hB.2.2.2.2 (m - 1)
  obtain ⟨f, hf⟩ : ∃ f, f = 1000000000 / (gb (m - 1) + 1) := ⟨_, rfl⟩
  obtain ⟨k1, k2, k3, k4⟩ := kn_top (t := gb (m - 1)) (f := f) (by omega) tl hf
  have nm1 : nI m - 1 = nI (m - 1) := by rw [show (1 : Int32) = nI 1 from rfl, pk_sub (by omega)]
  conv => whnf
  refine ⟨_, hB1.1, ?_⟩
  conv => whnf
  refine ⟨_, hB1.1, ?_⟩
  conv => whnf
  refine ⟨_, _, Or.inl hB1.2.1, by rw [nm1]; exact vp_in_nI (by omega) (by omega), ?_⟩
  rw [nm1, nI_clamp (by omega)]
  conv => whnf
  refine ⟨by rw [nI_1]; exact nI_ne0 (by omega) (by omega), ?_⟩
  rw [nI_1, show (1000000000 : Int32) = nI 1000000000 from rfl, pk_div (by omega) (by omega) (by omega), ← hf]
  conv => whnf
  refine ⟨_, hD1, ?_⟩
  conv => whnf
  refine ⟨⟨_, hT1.1⟩, ⟨rfl, Nat.le_of_ble_eq_true rfl, Nat.le_of_ble_eq_true rfl⟩, ?_⟩
  refine c_Na_copy hG hl hT1 hB1 (by omega) hr1 (fun h2 g2 b1 b2 b3 b4 => ?_) (fun h2 b1 b2 => by omega)
  have hN2 := hN1.kept b2 ndr.1 ndr.2
  have hS2 := a3.kept b2 nds.1 nds.2
  have hD2 := hD1.kept b2 (NS_o (by omega))
  have f2 := f1.tr0 (b2.mono sD)
  have hr2 := hr1.kept b2
  have eV2 : zv 1000000000 g2 m = W := by rw [zv_congr (g' := gb) b4, hvb]
  have hWp : zv 1000000000 gb (m - 1) < 1000000000 ^ (m - 1) := zv_lt (fun i _ => hB.2.2.2.2 i)
  have eWs : W = zv 1000000000 gb (m - 1) + gb (m - 1) * 1000000000 ^ (m - 1) := by
    rw [← hvb]
    conv => lhs; rw [show m = m - 1 + 1 by omega]
    rfl
  have eP : 1000000000 ^ m = 1000000000 ^ (m - 1) * 1000000000 := by
    conv => lhs; rw [show m = m - 1 + 1 by omega]
    rw [Nat.pow_succ]
  have hWf : W * f < 1000000000 ^ m := by
    have h1 : W < (gb (m - 1) + 1) * 1000000000 ^ (m - 1) := by rw [Nat.add_mul, Nat.one_mul]; omega
    have h2 : W * f < (gb (m - 1) + 1) * 1000000000 ^ (m - 1) * f := Nat.mul_lt_mul_of_pos_right h1 k2
    have h3 : (gb (m - 1) + 1) * 1000000000 ^ (m - 1) * f = (gb (m - 1) + 1) * f * 1000000000 ^ (m - 1) := Nat.mul_right_comm _ _ _
    have h4 : (gb (m - 1) + 1) * f * 1000000000 ^ (m - 1) ≤ 1000000000 * 1000000000 ^ (m - 1) := Nat.mul_le_mul_right _ k4
    omega
  conv => whnf
  refine ⟨_, hD2, ?_⟩
  conv => whnf
  refine ⟨⟨_, b3.1⟩, ⟨rfl, Nat.le_of_ble_eq_true rfl, Nat.le_of_ble_eq_true rfl⟩, ?_⟩
  refine c_Na_timesSmall2 hG hl b3 hr2 (by omega) k2 (fun h3 v n3 c1 c2 c3 c4 => ?_) (fun h3 c1 c2 => by rw [eV2] at c2; omega)
  rw [eV2] at c3
  have en3 : n3 = m := by
    rcases c4 with e | ⟨e1, e2⟩
    · exact e
    · exfalso
      rw [e1, zv_succ] at c3
      have : 1 * 1000000000 ^ m ≤ v m * 1000000000 ^ m := Nat.mul_le_mul_right _ (by omega)
      omega
  subst en3
  have hd1 : 500000000 ≤ v (n3 - 1) := by
    have hvp : zv 1000000000 v (n3 - 1) < 1000000000 ^ (n3 - 1) := zv_lt (fun i _ => c2.2.2.2.2 i)
    have evs : zv 1000000000 v n3 = zv 1000000000 v (n3 - 1) + v (n3 - 1) * 1000000000 ^ (n3 - 1) := by
      conv => lhs; rw [show n3 = n3 - 1 + 1 by omega]
      rfl
    have h5 : gb (n3 - 1) * f * 1000000000 ^ (n3 - 1) ≤ W * f := by
      rw [Nat.mul_right_comm]
      exact Nat.mul_le_mul_right _ (by omega)
    have h6 : gb (n3 - 1) * f * 1000000000 ^ (n3 - 1) < (v (n3 - 1) + 1) * 1000000000 ^ (n3 - 1) := by rw [Nat.add_mul, Nat.one_mul]; omega
    have := Nat.lt_of_mul_lt_mul_right h6
    omega
  have hN3 := hN2.kept c1 ndr.1 ndr.2
  have hS3 := hS2.kept c1 nds.1 nds.2
  have hD3 := hD2.kept c1 (NS_o (by omega))
  have f3 := f2.tr0 (c1.mono sD)
  have hr3 := hr2.kept c1
  conv => whnf
  refine ⟨_, hN3.1, ?_⟩
  conv => whnf
  refine ⟨⟨_, hN3.1⟩, ⟨rfl, Nat.le_of_ble_eq_true rfl, Nat.le_of_ble_eq_true rfl⟩, ?_⟩
  refine c_Na_timesSmall2 hG hl hN3 hr3 (by omega) k2 (fun h4 u n4 d1 d2 d3 d4 => ?_) (fun h4 d1 d2 d3 d4 => ?_)
  rotate_left
  · have := hth h4 (by omega) (by omega) (Fx.after f3 (d3.mono sR)) d4 ⟨gs, 0, hS3.kept d3.1 nrs.1 nrs.2⟩ (hD3.kept1 d3.1 (NS_o (by omega))) ⟨v, n3, c2.kept d3.1 nrd.1 nrd.2⟩
    rw [← f3.c0] at this
    exact this
  rw [hv] at d3
  have hS4 := hS3.kept d1 nrs.1 nrs.2
  have hD4 := hD3.kept d1 (NS_o (by omega))
  have hV4 := c2.kept d1 nrd.1 nrd.2
  have f4 := f3.tr0 (d1.mono sR)
  have hr4 := hr3.kept d1
  have hVL : V < 1000000000 ^ L := by rw [eL]; exact nl_pow
  -- from here on: the window is one limb longer
  have b106 : ∀ h5 u5, Fg B h h5 (DS B r s d) 0 → Rm h5 → Dvd B h5 d → Nt B h5 (d + 1) 226 v n3 → Nt B h5 s Rs gs 0 → Nt B h5 r R u5 (L + 1) → zv 1000000000 u5 (L + 1) = V * f →
      zd_W l B m_Dv_split 106 [some (.ref (zd_b0 B + d)), some (.ref (zd_b0 B + r)), some (.ref (zd_b0 B + b)), some (.ref (zd_b0 B + s)), some (.int (nI f)), some (.int (nI L)), none] [] h5 Q := by
    intro h5 u5 f5 hr5 hD5 hV5 hS5 hU5 hz5
    have R5 := hU5.2.2.1
    have ew : nI L - nI n3 + 1 = nI (L - n3 + 1) := by rw [pk_sub mL, nI_1]
    refine zd_go (ok_Dv_split hG hl) [134] 60 ?_
    conv => whnf
    refine ⟨_, hD5, ?_⟩
    conv => whnf
    refine ⟨_, hV5.1, ?_⟩
    conv => whnf
    refine ⟨⟨_, hS5.1⟩, ⟨rfl, Nat.le_of_ble_eq_true rfl, Nat.le_of_ble_eq_true rfl⟩, ?_⟩
    rw [ew]
    refine c_Na_claim hG hl hS5 (by omega) hr5 (fun h6 e1 e2 e3 => ?_) (fun h6 e1 e2 => by omega)
    have hU6 := hU5.kept e2 nsr.1 nsr.2
    have hV6 := hV5.kept e2 nsd.1 nsd.2
    have hD6 := hD5.kept e2 (NS_o (by omega))
    conv => whnf
    refine ⟨_, hD6, ?_⟩
    conv => whnf
    refine ⟨_, hV6.1, ?_⟩
    conv => whnf
    refine ⟨?_, trivial⟩
    have hD0 : 0 < zv 1000000000 v n3 := by
      rw [c3]
      exact Nat.mul_pos (Nat.pos_of_ne_zero hW) k2
    have hrem : zv 1000000000 (fun i => u5 (L - n3 + 1 + i)) n3 < zv 1000000000 v n3 := by
      have e7 := zv_div (b := 1000000000) (g := u5) (by decide) (m := L - n3 + 1) n3 (fun i _ => hU5.2.2.2.2 i)
      rw [show L - n3 + 1 + n3 = L + 1 by omega, hz5] at e7
      rw [← e7, c3, Nat.div_lt_iff_lt_mul (Nat.pow_pos (by decide))]
      have h8 : gb (n3 - 1) * 1000000000 ^ (n3 - 1) ≤ W := by omega
      have h9 : 1 * 1000000000 ^ (n3 - 1) ≤ gb (n3 - 1) * 1000000000 ^ (n3 - 1) := Nat.mul_le_mul_right _ (by omega)
      have h10 : 1000000000 ^ (n3 - 1) * 1000000000 ^ (L - n3 + 1) ≤ W * 1000000000 ^ (L - n3 + 1) := Nat.mul_le_mul_right _ (by omega)
      rw [← Nat.pow_add, show n3 - 1 + (L - n3 + 1) = L by omega] at h10
      rw [Nat.mul_right_comm]
      exact Nat.mul_lt_mul_of_pos_right (Nat.lt_of_lt_of_le hVL h10) k2
    have := w_Dv_split134 (h := h) (b := b) hG hl (R := R) (Rs := Rs) (L := L) (m := n3) (N := L - n3 + 1) (f := f) (u0 := u5) (v := v) (Q := Q) hrd hsd hrs hm hd1 hU5.2.2.2.2 (by omega) R5 (by omega) (by omega) (by omega) k2 (by omega) c2.2.2.2.2 (fun h7 g1 g2 g3 g4 g5 => hq h7 g1 ?_ ?_ g4 ⟨v, n3, g5⟩) (L - n3 + 1) h6 u5 gs (Nat.le_refl _) (f5.tr0 (e2.mono sS)) hD6 hV6 hU6 e3 (fun _ _ => rfl) (fun j j1 j2 => by omega) hrem (by
        rw [zh_n, Nat.zero_mul, Nat.zero_add]
        unfold zh
        rw [show L + 1 - (L - n3 + 1) = n3 by omega])
    · have e9 : nI L - nI n3 = nI (L - n3 + 1) - 1 := by rw [pk_sub mL, nI_pred]
      rw [← e9] at this
      exact this
    · rw [hz5, c3, Nat.mul_mod_mul_right, Nat.mul_div_cancel _ (by omega)] at g2
      exact g2
    · rw [hz5, c3, Nat.mul_div_mul_right _ _ (by omega)] at g3
      exact g3
  conv => whnf
  refine ⟨_, d2.1, ?_⟩
  conv => whnf
  rcases d4 with e | ⟨e1, e2⟩
  · subst e
    refine ⟨fun z => absurd rfl z, fun z => ?_⟩
    conv => whnf
    refine ⟨⟨_, d2.1⟩, ⟨rfl, Nat.le_of_ble_eq_true rfl, Nat.le_of_ble_eq_true rfl⟩, ?_⟩
    rw [nI_1]
    refine c_Na_claim hG hl d2 (by omega) hr4 (fun h5 e1 e2 e3 => ?_) (fun h5 e1 e2 => ?_)
    rotate_left
    · have := hth h5 (by omega) (by omega) (Fx.after f4 (e2.mono (fun _ z => z.elim))) ⟨u, n4, d2.kept e2.1 (fun z => z) (fun z => z)⟩ ⟨gs, 0, hS4.kept e2.1 (fun z => z) (fun z => z)⟩ (hD4.kept1 e2.1 (fun z => z)) ⟨v, n3, hV4.kept e2.1 (fun z => z) (fun z => z)⟩
      rw [← f4.c0] at this
      exact this
    conv => whnf
    refine ⟨_, e3.1, ?_⟩
    conv => whnf
    refine ⟨_, _, e3.2.1, vp_in_nI (by omega) (by omega), ?_⟩
    rw [nI_clamp (by omega), show (0 : Int32) = nI 0 from nI_0.symm]
    conv => whnf
    refine ⟨?_, trivial⟩
    have fs : Fg B h5 (zd_set h5 (zd_b0 B + r + 1) (.inr (.inl (0, R, upd (fun i => nI (u i)) n4 (nI 0))))) (NS B r) 0 := Fg.set (Or.inr rfl)
    have ff := e2.tr0 fs
    refine b106 _ (zu u n4 0) (f4.tr0 (ff.mono sR)) (hr4.kept ff) (hD4.kept ff (NS_o (by omega))) (hV4.kept ff nrd.1 nrd.2) (hS4.kept ff nrs.1 nrs.2) (e3.put (i := n4) (v := 0) (by omega)) ?_
    rw [zv_succ, zu_s, zv_zu_out (Nat.le_refl _), Nat.zero_mul, Nat.add_zero, d3]
  · subst e1
    refine ⟨fun z => ?_, fun z => absurd ((nI_eq (by have := d2.2.2.1; omega) (by omega)).mp z) (by omega)⟩
    conv => whnf
    exact ⟨b106 h4 u f4 hr4 hD4 hV4 hS4 d2 d3, trivial⟩
end DG

/-! accept, split, extract for the desk's machine -/
section XB
variable {l : Launch} {B : zd_B} {h : zd_H} {Q : zd_O → zd_H → Prop}
def DcK (B : zd_B) (k : Nat) : Nat → Prop := fun q => q = zd_b0 B + k ∨ NS B (k + 1) q
theorem c_Dc_accept (hG : zd_G B) (hl : l.stackTraces = false) {k V V0 : Nat} {neg n0 : Bool} {s s0 : Int} {lo : Int32} (hD : Dc B h k n0 V0 s0) (hk : k + 2 < 46) (hR : zd_Ob B h (zd_b0 B + 46) 6 [.ref (zd_b0 B + 47), .int (bI neg), .int (iI s), .int lo]) (hN : Nv B h 47 226 V) (hV : nl V ≤ 112) (hr : Rm h)
    (hq : ∀ h', Fg B h h' (DcK B k) 0 → Dc B h' k (neg && decide (V ≠ 0)) V s → Q (.inl none) h') : zd_M l B m_Dc_accept [.ref (zd_b0 B + k), .ref (zd_b0 B + 46)] h Q := by
  obtain ⟨ho, hM⟩ := hD
  obtain ⟨fs, ob⟩ := hM.ob
  refine zd_go (ok_Dc_accept hG hl) [34] 60 ?_
  conv => whnf
  refine ⟨_, ho, ?_⟩
  conv => whnf
  refine ⟨_, hR, ?_⟩
  conv => whnf
  refine ⟨⟨_, ob⟩, ⟨rfl, Nat.le_of_ble_eq_true rfl, Nat.le_of_ble_eq_true rfl⟩, ?_⟩
  refine v_copy hG hl hM.s hN (by omega) hr (fun h1 a1 a2 a3 => ?_) (fun h1 a1 a2 => absurd hV (by omega))
  have o1 := a2.ob ho (NS_o (by omega))
  have r1 := a2.ob hR (NS_o (by omega))
  obtain ⟨fs1, ob1⟩ := a3.ob
  have fin : zd_W l B m_Dc_accept 34 [some (.ref (zd_b0 B + k)), some (.ref (zd_b0 B + 46))] [.int (bI (neg && decide (V ≠ 0))), .ref (zd_b0 B + k)] h1 Q := by
    have f1 : ∀ c, Fg B h1 (zd_set h1 (zd_b0 B + k) c) (fun q => q = zd_b0 B + k) 0 := fun c => Fg.set rfl
    refine zd_go (ok_Dc_accept hG hl) [] 60 ?_
    conv => whnf
    refine ⟨_, o1, Nat.le_of_ble_eq_true rfl, by cases (neg && decide (V ≠ 0)) <;> exact ⟨rfl, rfl⟩, ?_⟩
    conv => whnf
    refine ⟨_, (f1 _).ob r1 (fun e => by omega), ?_⟩
    conv => whnf
    refine ⟨_, ⟨o1.1, zd_set_s⟩, Nat.le_of_ble_eq_true rfl, ⟨rfl, rfl⟩, ?_⟩
    conv => whnf
    have f2 : Fg B h1 (zd_set (zd_set h1 (zd_b0 B + k) (.inl (1, [.ref (zd_b0 B + (k + 1)), .int (bI (neg && decide (V ≠ 0))), .int (iI s0)]))) (zd_b0 B + k) (.inl (1, [.ref (zd_b0 B + (k + 1)), .int (bI (neg && decide (V ≠ 0))), .int (iI s)]))) (fun q => q = zd_b0 B + k) 0 := Fg.set2 (S := fun q => q = zd_b0 B + k) (Fg.set (S := fun q => q = zd_b0 B + k) rfl) rfl
    refine ⟨hq _ ((a2.mono (fun q e => Or.inr e)).tr0 (f2.mono (fun q e => Or.inl e))) ⟨⟨o1.1, zd_set_s⟩, a3.kept f2 (fun e => by omega) (fun e => by omega)⟩, trivial⟩
  conv => whnf
  refine ⟨_, r1, ?_⟩
  conv => whnf
  cases neg
  · refine ⟨fun _ => ?_, fun z => absurd rfl z⟩
    conv => whnf
    exact ⟨fin, trivial⟩
  · refine ⟨fun z => absurd z (by decide), fun _ => ?_⟩
    conv => whnf
    refine ⟨_, o1, ?_⟩
    conv => whnf
    refine ⟨⟨_, ob1⟩, ⟨rfl, Nat.le_of_ble_eq_true rfl, Nat.le_of_ble_eq_true rfl⟩, ?_⟩
    refine v_isZero hG hl a3 ?_
    conv => whnf
    by_cases e : V = 0
    · rw [if_pos e]
      rw [show (true && decide (V ≠ 0)) = false by simp [e]] at fin
      refine ⟨fun _ => ?_, fun z => absurd z (by decide)⟩
      conv => whnf
      exact ⟨fin, trivial⟩
    · rw [if_neg e]
      rw [show (true && decide (V ≠ 0)) = true by simp [e]] at fin
      refine ⟨fun z => absurd rfl z, fun _ => ?_⟩
      conv => whnf
      exact ⟨fin, trivial⟩
end XB
theorem xi.rset {B : zd_B} {h h' : zd_H} {a : zx} {T : Nat} {x : zr} (xa : xi B h a) (hT : T < 10) (f : Fg B h h' (DcK B (2 + 3 * T)) 0) (n : Dc B h' (2 + 3 * T) x.1 x.2.1 x.2.2) : xi B h' (zpu a.1 T x, a.2) := by
  obtain ⟨⟨x1, x2⟩, x3, x4, x5, x6, x7, x8, x9, x10, x11, x12, x13⟩ := xa
  have hS : ∀ k, k < 2 + 3 * T ∨ 2 + 3 * T + 2 < k → ¬ DcK B (2 + 3 * T) (zd_b0 B + k) := fun k hk q => by rcases q with q | q | q <;> omega
  refine ⟨⟨f.ob x1 (hS 0 (by omega)), f.ar x2 (hS 1 (by omega))⟩, fun i hi => ?_, f.ob x4 (hS 46 (by omega)), x5.kept f (hS 47 (by omega)) (hS 48 (by omega)), x6.kept f (hS 49 (by omega)) (hS 50 (by omega)), x7.kept f (hS 51 (by omega)) (hS 52 (by omega)), f.ob x8 (hS 36 (by omega)), x9.kept f (hS 37 (by omega)) (hS 38 (by omega)), f.ob x10 (hS 39 (by omega)), x11.kept f (hS 40 (by omega)) (hS 41 (by omega)), x12.kept f (hS 42 (by omega)) (hS 43 (by omega)), x13.kept f (hS 44 (by omega)) (hS 45 (by omega))⟩
  by_cases e : i = T
  · subst e
    show Dc B h' (2 + 3 * i) (zpu a.1 i x i).1 (zpu a.1 i x i).2.1 (zpu a.1 i x i).2.2
    rw [zpu_s]
    exact n
  · show Dc B h' (2 + 3 * i) (zpu a.1 T x i).1 (zpu a.1 T x i).2.1 (zpu a.1 T x i).2.2
    rw [zpu_n e]
    exact (x3 i hi).kept f (hS _ (by omega)) (hS _ (by omega)) (hS (2 + 3 * i + 1 + 1) (by omega))
theorem xi.nsp {B : zd_B} {h h' : zd_H} {a : zx} {d : Nat} {o1 o2 : Option Nat} (x : xi B h a) (f : Fg B h h' (DS B 47 51 36) d) (n1 : NvO B h' 47 226 o1) (n2 : NvO B h' 51 226 o2) (n3 : Dvd B h' 36) (n4 : Ns B h' 37 226) : xi B h' (a.1, a.2.1, o1, a.2.2.2.1, o2) := by
  obtain ⟨⟨x1, x2⟩, x3, x4, x5, x6, x7, x8, x9, x10, x11, x12, x13⟩ := x
  have hS : ∀ k, k < 37 ∨ (38 < k ∧ k < 47) ∨ (48 < k ∧ k < 51) → ¬ DS B 47 51 36 (zd_b0 B + k) := fun k hk q => by
    obtain ⟨j, hj, e⟩ := DS.cl (ks := [47, 48, 51, 52, 37, 38]) (by decide) _ q
    have : j = k := by omega
    subst this
    simp at hj
    omega
  exact ⟨⟨f.ob x1 (hS 0 (by omega)), f.ar x2 (hS 1 (by omega))⟩, fun i hi => (x3 i hi).kept f (hS _ (by omega)) (hS _ (by omega)) (hS (2 + 3 * i + 1 + 1) (by omega)), f.ob x4 (hS 46 (by omega)), n1, x6.kept f (hS 49 (by omega)) (hS 50 (by omega)), n2, n3, n4, f.ob x10 (hS 39 (by omega)), x11.kept f (hS 40 (by omega)) (hS 41 (by omega)), x12.kept f (hS 42 (by omega)) (hS 43 (by omega)), x13.kept f (hS 44 (by omega)) (hS 45 (by omega))⟩
theorem xsDS {B : zd_B} : ∀ q, DS B 47 51 36 q → xs B q := fun q z => by
  obtain ⟨j, hj, e⟩ := DS.cl (ks := [47, 48, 51, 52, 37, 38]) (by decide) _ z
  simp at hj
  exact Or.inr (by omega)
section XC
variable {l : Launch} {B : zd_B} {Q : Option Value ⊕ Nat → zx → Prop} {R : Nat → zr} {r : Int32 × Int32 × Int32} {v o c : Option Nat}
theorem x_accept (hG : zd_G B) (hl : l.stackTraces = false) {T V : Nat} {ng : Bool} {s : Int} {lo : Int32} (hT : T < 10) (hV : dg V ≤ 1000) (hq : Q (.inl none) (zpu R T (ng && decide (V ≠ 0), V, s), (bI ng, iI s, lo), some V, o, c)) : zx_M l B m_Dc_accept [.ref (2 + 3 * T : Nat), .ref 46] (R, (bI ng, iI s, lo), some V, o, c) Q := by
  intro h0 h r0 f0 xa
  rw [pad_m, ent_m]
  have hN : Nv B h 47 226 V := xa.2.2.2.1
  have hn : nl V ≤ 112 := by unfold nl; split <;> omega
  exact c_Dc_accept hG hl (xa.2.1 T hT) (by omega) xa.2.2.1 hN hn (r0.kept f0) (fun h1 a2 a3 => zx_ret (f0.tr0 (a2.mono (fun q e => Or.inl (by rcases e with e | e | e <;> omega)))) (xa.rset (x := (ng && decide (V ≠ 0), V, s)) hT a2 a3) hq)
theorem x_splitR (hG : zd_G B) (hl : l.stackTraces = false) {i V : Nat} (hi : i < 10) (hW : (R i).2.1 ≠ 0) (hq : Q (.inl none) (R, r, some (V % (R i).2.1), o, some (V / (R i).2.1))) (hx : nl (R i).2.1 ≤ nl V → 226 < nl V + 1 → Q (.inr 11) (R, r, none, o, none)) : zx_M l B m_Dv_split [.ref 36, .ref 47, .ref (3 + 3 * i : Nat), .ref 51] (R, r, some V, o, c) Q := by
  intro h0 h r0 f0 xa
  rw [pad_m, ent_m]
  have hN : Nv B h 47 226 V := xa.2.2.2.1
  have hJ := xa.reg hi
  have hw := hJ.nl
  exact v_split hG hl xa.2.2.2.2.2.2.1 xa.2.2.2.2.2.2.2.1 hN hJ xa.2.2.2.2.2.1.s hW (Nat.le_refl _) (by omega) (by omega) (by omega) (by omega) (by omega) (by omega) (by omega) (r0.kept f0) (fun h1 b1 b2 b3 b4 b5 => zx_ret (f0.tr0 (b1.mono xsDS)) (xa.nsp (o1 := some _) (o2 := some _) b1 b2 b3 b4 b5) hq) (fun h1 b0 b1 b2 b3 b4 b5 b6 => zx_exc f0 b2 xsDS (xa.nsp (o1 := none) (o2 := none) b2.1 b3 b4 b5 b6) (hx b0 b1))
theorem x_split49 (hG : zd_G B) (hl : l.stackTraces = false) {V W : Nat} (hW : W ≠ 0) (hq : Q (.inl none) (R, r, some (V % W), some W, some (V / W))) (hx : nl W ≤ nl V → 226 < nl V + 1 → Q (.inr 11) (R, r, none, some W, none)) : zx_M l B m_Dv_split [.ref 36, .ref 47, .ref 49, .ref 51] (R, r, some V, some W, c) Q := by
  intro h0 h r0 f0 xa
  rw [pad_m, ent_m]
  have hN : Nv B h 47 226 V := xa.2.2.2.1
  have hJ : Nv B h 49 226 W := xa.2.2.2.2.1
  exact v_split hG hl xa.2.2.2.2.2.2.1 xa.2.2.2.2.2.2.2.1 hN hJ xa.2.2.2.2.2.1.s hW (Nat.le_refl _) hJ.nl (by omega) (by omega) (by omega) (by omega) (by omega) (by omega) (r0.kept f0) (fun h1 b1 b2 b3 b4 b5 => zx_ret (f0.tr0 (b1.mono xsDS)) (xa.nsp (o1 := some _) (o2 := some _) b1 b2 b3 b4 b5) hq) (fun h1 b0 b1 b2 b3 b4 b5 b6 => zx_exc f0 b2 xsDS (xa.nsp (o1 := none) (o2 := none) b2.1 b3 b4 b5 b6) (hx b0 b1))
theorem x_extract (hG : zd_G B) (hl : l.stackTraces = false) {X : Nat} (hX : 0 < X) (hX2 : nl X ≤ 224) (hq : Q (.inl (some (.int (bI (decide (isq X * isq X = X)))))) (R, r, some X, o, some (isq X))) : zx_M l B m_Ro_extract [.ref 39, .ref 47, .ref 51] (R, r, some X, o, c) Q := by
  intro h0 h r0 f0 xa
  rw [pad_m, ent_m]
  have hN : Nv B h 47 226 X := xa.2.2.2.1
  obtain ⟨⟨x1, x2⟩, x3, x4, x5, x6, x7, x8, x9, x10, x11, x12, x13⟩ := xa
  refine c_Ro_extract hG hl hX hX2 (r0.kept f0) x10 x8 x9 hN x11 x12 x13 x7.s (fun h1 s b1 b2 b3 b4 b5 b6 b7 b8 => ?_)
  have es : s = isq X := b7.un (isq_s X)
  subst es
  have ev : nI (if isq X * isq X = X then 1 else 0) = bI (decide (isq X * isq X = X)) := by by_cases e : isq X * isq X = X <;> simp [e, bI] <;> rfl
  rw [ev]
  have hS : ∀ k, RoE.contains k = false → ¬ CL B RoE (zd_b0 B + k) := fun k hk => CL.no hk
  have hS2 : ∀ k, k < 36 → ¬ CL B RoE (zd_b0 B + k) := fun k hk q => by
    obtain ⟨j, hj, e⟩ := q
    have : j = k := by omega
    subst this
    have h9 : RoE.all (fun j => Nat.ble 36 j) = true := by decide
    have := List.all_eq_true.mp h9 j (List.contains_iff_mem.mp hj)
    have := Nat.le_of_ble_eq_true this
    omega
  refine zx_ret (a := (R, r, some X, o, some (isq X))) (v := some (.int (bI (decide (isq X * isq X = X))))) (f0.tr0 (b1.mono (fun q z => ?_))) ⟨⟨b1.ob x1 (hS 0 (by decide)), b1.ar x2 (hS 1 (by decide))⟩, fun i hi => (x3 i hi).kept b1 (hS2 _ (by omega)) (hS2 _ (by omega)) (hS2 (2 + 3 * i + 1 + 1) (by omega)), b1.ob x4 (hS 46 (by decide)), x5.kept b1 (hS 47 (by decide)) (hS 48 (by decide)), x6.kept b1 (hS 49 (by decide)) (hS 50 (by decide)), b8, b2, b3, b1.ob x10 (hS 39 (by decide)), b4, b5, b6⟩ hq
  obtain ⟨j, hj, e⟩ := z
  have h9 : RoE.all (fun j => Nat.ble 36 j && Nat.ble j 52) = true := by decide
  have := List.all_eq_true.mp h9 j (List.contains_iff_mem.mp hj)
  rw [Bool.and_eq_true] at this
  have := Nat.le_of_ble_eq_true this.1
  have := Nat.le_of_ble_eq_true ‹_ ∧ _›.2
  exact Or.inr (by omega)
end XC

/-! what the numbers' methods do, for the desk's machine -/
theorem xi.reg {B : zd_B} {h : zd_H} {a : zx} (x : xi B h a) {i : Nat} (hi : i < 10) : Nv B h (3 + 3 * i) 112 (a.1 i).2.1 := by
  have := (x.2.1 i hi).2
  rw [show 2 + 3 * i + 1 = 3 + 3 * i by omega] at this
  exact this
theorem xs47 {B : zd_B} : ∀ q, NS B 47 q → xs B q := fun q e => Or.inr (by rcases e with e | e <;> omega)
theorem xs49 {B : zd_B} : ∀ q, NS B 49 q → xs B q := fun q e => Or.inr (by rcases e with e | e <;> omega)
theorem xs51 {B : zd_B} : ∀ q, NS B 51 q → xs B q := fun q e => Or.inr (by rcases e with e | e <;> omega)
theorem zx_ret {B : zd_B} {h0 h : zd_H} {a : zx} {Q : Option Value ⊕ Nat → zx → Prop} {v : Option Value} (f : Fg B h0 h (xs B) 0) (x : xi B h a) (q : Q (.inl v) a) : zx_P B h0 Q (.inl (v.map (vm B))) h := ⟨.inl v, a, x, q, rfl, f⟩
theorem zx_exc {B : zd_B} {h0 h h1 : zd_H} {a : zx} {c : Nat} {S : Nat → Prop} {Q : Option Value ⊕ Nat → zx → Prop} (f : Fg B h0 h (xs B) 0) (e : Fx B h h1 S c) (hS : ∀ q, S q → xs B q) (x : xi B h1 a) (q : Q (.inr c) a) : zx_P B h0 Q (.inr (zd_b0 B + h.1, c)) h1 := by
  have e4 : h.1 = h0.1 := f.1
  have e5 := e.2
  rw [e4] at e5 ⊢
  exact ⟨.inr c, a, x, q, rfl, f.tr2 (e.1.mono hS), e5⟩
theorem xi.e0 {B : zd_B} {h h' : zd_H} {a : zx} {c : Nat} (x : xi B h a) (e : Fx B h h' E0 c) : xi B h' a := x.kept e.1 (fun _ _ z => z)
theorem e0xs {B : zd_B} : ∀ q, E0 q → xs B q := fun _ z => z.elim
section XI
variable {l : Launch} {B : zd_B} {h : zd_H} {Q : zd_O → zd_H → Prop}
/-- the loop of increment: all limbs below i were full, and are 0 -/
theorem w_Na_increment2 (hG : zd_G B) (hl : l.stackTraces = false) {k R n : Nat} {g0 : Nat → Nat} (hnR : zv 1000000000 g0 n + 1 < 1000000000 ^ R) (hz : n = 0 ∨ g0 (n - 1) ≠ 0)
    (hq : ∀ h' g' n', Fg B h h' (NS B k) 0 → Nt B h' k R g' n' → (n' = 0 ∨ g' (n' - 1) ≠ 0) → zv 1000000000 g' n' = zv 1000000000 g0 n + 1 → (n' = n ∨ n' = n + 1) → Q (.inl none) h') :
    ∀ (d i : Nat) (h1 : zd_H) (g : Nat → Nat), i + d = n → Fg B h h1 (NS B k) 0 → Nt B h1 k R g n → Rm h1 → (∀ j, i ≤ j → g j = g0 j) → zv 1000000000 g n + 1000000000 ^ i = zv 1000000000 g0 n + 1 → zd_W l B m_Na_increment 2 [some (.ref (zd_b0 B + k)), some (.int (nI i))] [] h1 Q := by
  intro d
  induction d with
  | zero =>
    intro i h1 g hd f hN hr hj hv
    have hi : i = n := by omega
    subst hi
    have r2 := hN.2.2.2.1
    have hnR2 : i < R := (Nat.pow_lt_pow_iff_right (a := 1000000000) (by decide)).mp (by omega)
    refine zd_go (ok_Na_increment hG hl) [] 40 ?_
    conv => whnf
    refine ⟨_, hN.1, ?_⟩
    conv => whnf
    refine ⟨fun z => ?_, fun z => absurd (Int32.le_refl _) z⟩
    conv => whnf
    refine ⟨_, hN.1, ?_⟩
    conv => whnf
    refine ⟨fun z => ?_, fun z => absurd (Int32.le_refl _) z⟩
    conv => whnf
    refine ⟨_, hN.1, ?_⟩
    conv => whnf
    refine ⟨⟨_, hN.1⟩, ⟨rfl, Nat.zero_le _, Nat.le_of_ble_eq_true rfl⟩, ?_⟩
    rw [nI_1]
    refine c_Na_claim hG hl hN (by omega) hr (fun h2 a1 a2 a3 => ?_) (fun h2 a1 _ => by omega)
    conv => whnf
    refine ⟨_, a3.1, ?_⟩
    conv => whnf
    refine ⟨R, _, a3.2.1, vp_in_nI (by omega) (by omega), ?_⟩
    rw [nI_clamp (by omega)]
    conv => whnf
    refine ⟨hq _ (zu g i 1) (i + 1) ((f.tr0 a2).set2 (Or.inr rfl)) (a3.put (v := 1) (by omega)) (Or.inr (by show zu g i 1 (i + 1 - 1) ≠ 0; rw [Nat.add_sub_cancel, zu_s]; decide)) ?_ (Or.inr rfl), trivial⟩
    rw [zv_succ, zu_s, zv_zu_out (Nat.le_refl _)]
    omega
  | succ d ih =>
    intro i h1 g hd f hN hr hj hv
    have r2 := hN.2.2.2.1
    have r1 := hN.2.2.1
    have hgi := hN.2.2.2.2 i
    refine zd_go (ok_Na_increment hG hl) [2] 40 ?_
    conv => whnf
    refine ⟨_, hN.1, ?_⟩
    conv => whnf
    refine ⟨fun z => absurd z (nI_ge (by omega) (by omega)), fun z => ?_⟩
    conv => whnf
    refine ⟨_, hN.1, ?_⟩
    conv => whnf
    refine ⟨R, _, Or.inl hN.2.1, vp_in_nI (by omega) (by omega), ?_⟩
    rw [nI_clamp (by omega)]
    conv => whnf
    refine ⟨fun z => ?_, fun z => ?_⟩
    · have z' : g i ≠ 999999999 := fun e => z (by show nI (g i) = _; rw [e]; rfl)
      conv => whnf
      refine ⟨_, hN.1, ?_⟩
      conv => whnf
      refine ⟨fun z => absurd z (nI_ge (by omega) (by omega)), fun z => ?_⟩
      conv => whnf
      refine ⟨_, hN.1, ?_⟩
      conv => whnf
      refine ⟨R, _, Or.inl hN.2.1, vp_in_nI (by omega) (by omega), ?_⟩
      rw [nI_clamp (by omega)]
      conv => whnf
      refine ⟨R, _, hN.2.1, vp_in_nI (by omega) (by omega), ?_⟩
      rw [nI_clamp (by omega), nI_1]
      conv => whnf
      refine ⟨hq _ (zu g i (g i + 1)) n (f.set2 (Or.inr rfl)) (hN.put (v := g i + 1) (by omega)) ?_ ?_ (Or.inl rfl), trivial⟩
      · rcases hz with hz | hz
        · omega
        · refine Or.inr ?_
          unfold zu
          split
          · omega
          · rw [hj (n - 1) (by omega)]; exact hz
      · have := zv_zu (b := 1000000000) (g := g) (n := n) (k := i) (v := g i + 1) (by omega)
        rw [Nat.add_mul, Nat.one_mul] at this
        omega
    · have z' : g i = 999999999 := (nI_eq (b := 999999999) (by omega) (by omega)).mp z
      conv => whnf
      refine ⟨_, hN.1, ?_⟩
      conv => whnf
      refine ⟨R, _, hN.2.1, vp_in_nI (by omega) (by omega), ?_⟩
      rw [nI_clamp (by omega)]
      conv => whnf
      refine ⟨?_, trivial⟩
      show zd_W l B m_Na_increment 2 [some (.ref (zd_b0 B + k)), some (.int (nI i + 1))] [] _ Q
      rw [nI_1]
      refine ih (i + 1) _ (zu g i 0) (by omega) (f.set2 (Or.inr rfl)) (hN.put (v := 0) (by omega)) hr (fun j hj2 => by rw [zu_n (by omega)]; exact hj j (by omega)) ?_
      have := zv_zu (b := 1000000000) (g := g) (n := n) (k := i) (v := 0) (by omega)
      rw [z'] at this
      rw [Nat.pow_succ]
      omega
theorem c_Na_increment2 (hG : zd_G B) (hl : l.stackTraces = false) {k R n : Nat} {g : Nat → Nat} (hN : Nt B h k R g n) (hr : Rm h) (hnR : zv 1000000000 g n + 1 < 1000000000 ^ R) (hz : n = 0 ∨ g (n - 1) ≠ 0)
    (hq : ∀ h' g' n', Fg B h h' (NS B k) 0 → Nt B h' k R g' n' → (n' = 0 ∨ g' (n' - 1) ≠ 0) → zv 1000000000 g' n' = zv 1000000000 g n + 1 → (n' = n ∨ n' = n + 1) → Q (.inl none) h') : zd_M l B m_Na_increment [.ref (zd_b0 B + k)] h Q := by
  refine zd_go (ok_Na_increment hG hl) [2] 40 ?_
  conv => whnf
  refine ⟨?_, trivial⟩
  exact w_Na_increment2 hG hl hnR hz hq n 0 h g (by omega) Fg.rf hN hr (fun j _ => rfl) rfl
theorem v_increment2 (hG : zd_G B) (hl : l.stackTraces = false) {k R V : Nat} (hN : Nv B h k R V) (hr : Rm h) (hnR : V + 1 < 1000000000 ^ R)
    (hq : ∀ h', Fg B h h' (NS B k) 0 → Nv B h' k R (V + 1) → Q (.inl none) h') : zd_M l B m_Na_increment [.ref (zd_b0 B + k)] h Q := by
  obtain ⟨g, n, a, b, c⟩ := hN
  exact c_Na_increment2 hG hl a hr (by rw [c]; exact hnR) b (fun h' g' n' d1 d2 d3 d4 _ => hq h' d1 ⟨g', n', d2, d3, by rw [d4, c]⟩)
end XI
section XA
variable {l : Launch} {B : zd_B} {Q : Option Value ⊕ Nat → zx → Prop} {R : Nat → zr} {r : Int32 × Int32 × Int32} {v o c : Option Nat}
theorem x_copy47r (hG : zd_G B) (hl : l.stackTraces = false) {i : Nat} (hi : i < 10) (hq : Q (.inl none) (R, r, some (R i).2.1, o, c)) : zx_M l B m_Na_copy [.ref 47, .ref (3 + 3 * i : Nat)] (R, r, v, o, c) Q := by
  intro h0 h r0 f0 xa
  rw [pad_m, ent_m]
  have hJ := xa.reg hi
  exact v_copy hG hl xa.2.2.2.1.s hJ (by omega) (r0.kept f0) (fun h1 a1 a2 a3 => zx_ret (f0.tr0 (a2.mono xs47)) (xa.n47 (o := some _) a2 a3) hq) (fun h1 a1 a2 => absurd hJ.nl (by omega))
theorem x_copy49r (hG : zd_G B) (hl : l.stackTraces = false) {i : Nat} (hi : i < 10) (hq : Q (.inl none) (R, r, v, some (R i).2.1, c)) : zx_M l B m_Na_copy [.ref 49, .ref (3 + 3 * i : Nat)] (R, r, v, o, c) Q := by
  intro h0 h r0 f0 xa
  rw [pad_m, ent_m]
  have hJ := xa.reg hi
  exact v_copy hG hl xa.2.2.2.2.1.s hJ (by omega) (r0.kept f0) (fun h1 a1 a2 a3 => zx_ret (f0.tr0 (a2.mono xs49)) (xa.n49 (o := some _) a2 a3) hq) (fun h1 a1 a2 => absurd hJ.nl (by omega))
theorem x_copy47_51 (hG : zd_G B) (hl : l.stackTraces = false) {V : Nat} (hq : Q (.inl none) (R, r, some V, o, some V)) : zx_M l B m_Na_copy [.ref 47, .ref 51] (R, r, v, o, some V) Q := by
  intro h0 h r0 f0 xa
  rw [pad_m, ent_m]
  have hJ : Nv B h 51 226 V := xa.2.2.2.2.2.1
  exact v_copy hG hl xa.2.2.2.1.s hJ (by omega) (r0.kept f0) (fun h1 a1 a2 a3 => zx_ret (f0.tr0 (a2.mono xs47)) (xa.n47 (o := some _) a2 a3) hq) (fun h1 a1 a2 => absurd hJ.nl (by omega))
theorem x_copy47_49 (hG : zd_G B) (hl : l.stackTraces = false) {V : Nat} (hq : Q (.inl none) (R, r, some V, some V, c)) : zx_M l B m_Na_copy [.ref 47, .ref 49] (R, r, v, some V, c) Q := by
  intro h0 h r0 f0 xa
  rw [pad_m, ent_m]
  have hJ : Nv B h 49 226 V := xa.2.2.2.2.1
  exact v_copy hG hl xa.2.2.2.1.s hJ (by omega) (r0.kept f0) (fun h1 a1 a2 a3 => zx_ret (f0.tr0 (a2.mono xs47)) (xa.n47 (o := some _) a2 a3) hq) (fun h1 a1 a2 => absurd hJ.nl (by omega))
theorem x_move47 (hG : zd_G B) (hl : l.stackTraces = false) {V : Nat} {p : Int} (hp : -100000 < p ∧ p < 100000)
    (hq : ∀ lost, (V = 0 ∨ p ≤ 0 ∨ (dg V + p.toNat + 8) / 9 ≤ 226) → lost ≤ 1 → (lost = 1 ↔ V % 10 ^ (-p).toNat ≠ 0) → Q (.inl (some (.int (nI lost)))) (R, r, some (V * 10 ^ p.toNat / 10 ^ (-p).toNat), o, c))
    (hx : V ≠ 0 → 0 < p → 226 < (dg V + p.toNat + 8) / 9 → Q (.inr 11) (R, r, some V, o, c)) : zx_M l B m_Na_move [.ref 47, .int (iI p)] (R, r, some V, o, c) Q := by
  intro h0 h r0 f0 xa
  rw [pad_m, ent_m]
  have hJ : Nv B h 47 226 V := xa.2.2.2.1
  exact v_move hG hl hJ hp (r0.kept f0) (fun h1 lost a1 a2 a3 a4 a5 => zx_ret (v := some (.int (nI lost))) (f0.tr0 (a2.mono xs47)) (xa.n47 (o := some _) a2 a3) (hq lost a1 a4 a5)) (fun h1 a1 a2 a3 a4 => zx_exc f0 a4 e0xs (xa.e0 a4) (hx a1 a2 a3))
theorem x_move49 (hG : zd_G B) (hl : l.stackTraces = false) {V : Nat} {p : Int} (hp : -100000 < p ∧ p < 100000)
    (hq : ∀ lost, (V = 0 ∨ p ≤ 0 ∨ (dg V + p.toNat + 8) / 9 ≤ 226) → lost ≤ 1 → (lost = 1 ↔ V % 10 ^ (-p).toNat ≠ 0) → Q (.inl (some (.int (nI lost)))) (R, r, v, some (V * 10 ^ p.toNat / 10 ^ (-p).toNat), c))
    (hx : V ≠ 0 → 0 < p → 226 < (dg V + p.toNat + 8) / 9 → Q (.inr 11) (R, r, v, some V, c)) : zx_M l B m_Na_move [.ref 49, .int (iI p)] (R, r, v, some V, c) Q := by
  intro h0 h r0 f0 xa
  rw [pad_m, ent_m]
  have hJ : Nv B h 49 226 V := xa.2.2.2.2.1
  exact v_move hG hl hJ hp (r0.kept f0) (fun h1 lost a1 a2 a3 a4 a5 => zx_ret (v := some (.int (nI lost))) (f0.tr0 (a2.mono xs49)) (xa.n49 (o := some _) a2 a3) (hq lost a1 a4 a5)) (fun h1 a1 a2 a3 a4 => zx_exc f0 a4 e0xs (xa.e0 a4) (hx a1 a2 a3))
theorem x_order (hG : zd_G B) (hl : l.stackTraces = false) {V W : Nat} (hq : Q (.inl (some (.int (cmpN V W)))) (R, r, some V, some W, c)) : zx_M l B m_Na_order [.ref 47, .ref 49] (R, r, some V, some W, c) Q := by
  intro h0 h r0 f0 xa
  rw [pad_m, ent_m]
  have hJ : Nv B h 47 226 V := xa.2.2.2.1
  have hK : Nv B h 49 226 W := xa.2.2.2.2.1
  exact v_order hG hl hJ hK (zx_ret (v := some (.int (cmpN V W))) f0 xa hq)
theorem x_raise (hG : zd_G B) (hl : l.stackTraces = false) {V W : Nat} (hq : Q (.inl none) (R, r, some (V + W), some W, c)) (hx : 226 < nl V + 1 ∨ 226 < nl W + 1 → Q (.inr 11) (R, r, some V, some W, c)) : zx_M l B m_Na_raiseBy [.ref 47, .ref 49] (R, r, some V, some W, c) Q := by
  intro h0 h r0 f0 xa
  rw [pad_m, ent_m]
  have hJ : Nv B h 47 226 V := xa.2.2.2.1
  have hK : Nv B h 49 226 W := xa.2.2.2.2.1
  exact v_raiseBy hG hl hJ hK (by decide) (r0.kept f0) (fun h1 a2 a3 => zx_ret (f0.tr0 (a2.mono xs47)) (xa.n47 (o := some _) a2 a3) hq) (fun h1 a1 a4 => zx_exc f0 a4 e0xs (xa.e0 a4) (hx a1))
theorem x_lower47 (hG : zd_G B) (hl : l.stackTraces = false) {V W : Nat} (hle : W ≤ V) (hq : Q (.inl none) (R, r, some (V - W), some W, c)) : zx_M l B m_Na_lowerBy [.ref 47, .ref 49] (R, r, some V, some W, c) Q := by
  intro h0 h r0 f0 xa
  rw [pad_m, ent_m]
  have hJ : Nv B h 47 226 V := xa.2.2.2.1
  have hK : Nv B h 49 226 W := xa.2.2.2.2.1
  exact v_lowerBy hG hl hJ hK (by decide) hle (fun h1 a2 a3 => zx_ret (f0.tr0 (a2.mono xs47)) (xa.n47 (o := some _) a2 a3) hq)
theorem x_lower49 (hG : zd_G B) (hl : l.stackTraces = false) {V W : Nat} (hle : V ≤ W) (hq : Q (.inl none) (R, r, some V, some (W - V), c)) : zx_M l B m_Na_lowerBy [.ref 49, .ref 47] (R, r, some V, some W, c) Q := by
  intro h0 h r0 f0 xa
  rw [pad_m, ent_m]
  have hJ : Nv B h 47 226 V := xa.2.2.2.1
  have hK : Nv B h 49 226 W := xa.2.2.2.2.1
  exact v_lowerBy hG hl hK hJ (by decide) hle (fun h1 a2 a3 => zx_ret (f0.tr0 (a2.mono xs49)) (xa.n49 (o := some _) a2 a3) hq)
theorem x_prod47 (hG : zd_G B) (hl : l.stackTraces = false) {i j : Nat} (hi : i < 10) (hj : j < 10) (hq : Q (.inl none) (R, r, some ((R i).2.1 * (R j).2.1), o, c)) : zx_M l B m_Na_becomeProduct [.ref 47, .ref (3 + 3 * i : Nat), .ref (3 + 3 * j : Nat)] (R, r, v, o, c) Q := by
  intro h0 h r0 f0 xa
  rw [pad_m, ent_m]
  have hJ := xa.reg hi
  have hK := xa.reg hj
  exact v_product hG hl xa.2.2.2.1.s hJ hK (by omega) (by omega) (r0.kept f0) (by have := hJ.nl; have := hK.nl; omega) (fun h1 a2 a3 => zx_ret (f0.tr0 (a2.mono xs47)) (xa.n47 (o := some _) a2 a3) hq)
theorem x_prod51s (hG : zd_G B) (hl : l.stackTraces = false) {V : Nat} (hn : nl V ≤ 113) (hq : Q (.inl none) (R, r, some V, o, some (V * V))) : zx_M l B m_Na_becomeProduct [.ref 51, .ref 47, .ref 47] (R, r, some V, o, c) Q := by
  intro h0 h r0 f0 xa
  rw [pad_m, ent_m]
  have hJ : Nv B h 47 226 V := xa.2.2.2.1
  exact v_product hG hl xa.2.2.2.2.2.1.s hJ hJ (by decide) (by decide) (r0.kept f0) (by omega) (fun h1 a2 a3 => zx_ret (f0.tr0 (a2.mono xs51)) (xa.n51 (o := some _) a2 a3) hq)
theorem x_prod51r (hG : zd_G B) (hl : l.stackTraces = false) {V i : Nat} (hi : i < 10) (hn : nl V ≤ 113) (hq : Q (.inl none) (R, r, some V, o, some (V * (R i).2.1))) : zx_M l B m_Na_becomeProduct [.ref 51, .ref 47, .ref (3 + 3 * i : Nat)] (R, r, some V, o, c) Q := by
  intro h0 h r0 f0 xa
  rw [pad_m, ent_m]
  have hJ : Nv B h 47 226 V := xa.2.2.2.1
  have hK := xa.reg hi
  exact v_product hG hl xa.2.2.2.2.2.1.s hJ hK (by decide) (by omega) (r0.kept f0) (by have := hK.nl; omega) (fun h1 a2 a3 => zx_ret (f0.tr0 (a2.mono xs51)) (xa.n51 (o := some _) a2 a3) hq)
theorem x_isZero47 (hG : zd_G B) (hl : l.stackTraces = false) {V : Nat} (hq : Q (.inl (some (.int (bI (decide (V = 0)))))) (R, r, some V, o, c)) : zx_M l B m_Na_isZero [.ref 47] (R, r, some V, o, c) Q := by
  intro h0 h r0 f0 xa
  rw [pad_m, ent_m]
  have hJ : Nv B h 47 226 V := xa.2.2.2.1
  refine v_isZero hG hl hJ ?_
  rw [show (if V = 0 then (1 : Int32) else 0) = bI (decide (V = 0)) by by_cases e : V = 0 <;> simp [e, bI]]
  exact zx_ret (v := some (.int (bI (decide (V = 0))))) f0 xa hq
theorem x_isZeroR (hG : zd_G B) (hl : l.stackTraces = false) {i : Nat} (hi : i < 10) (hq : Q (.inl (some (.int (bI (decide ((R i).2.1 = 0)))))) (R, r, v, o, c)) : zx_M l B m_Na_isZero [.ref (3 + 3 * i : Nat)] (R, r, v, o, c) Q := by
  intro h0 h r0 f0 xa
  rw [pad_m, ent_m]
  have hJ := xa.reg hi
  refine v_isZero hG hl hJ ?_
  show zx_P B h0 Q (.inl (some (.int (if (R i).2.1 = 0 then (1 : Int32) else 0)))) h
  rw [show (if (R i).2.1 = 0 then (1 : Int32) else 0) = bI (decide ((R i).2.1 = 0)) by by_cases e : (R i).2.1 = 0 <;> simp [e, bI]]
  exact zx_ret (v := some (.int (bI (decide ((R i).2.1 = 0))))) f0 xa hq
theorem x_digits47 (hG : zd_G B) (hl : l.stackTraces = false) {V : Nat} (hq : Q (.inl (some (.int (nI (dg V))))) (R, r, some V, o, c)) : zx_M l B m_Na_digits [.ref 47] (R, r, some V, o, c) Q := by
  intro h0 h r0 f0 xa
  rw [pad_m, ent_m]
  have hJ : Nv B h 47 226 V := xa.2.2.2.1
  exact v_digits hG hl hJ (zx_ret (v := some (.int (nI (dg V)))) f0 xa hq)
theorem x_digits51 (hG : zd_G B) (hl : l.stackTraces = false) {V : Nat} (hq : Q (.inl (some (.int (nI (dg V))))) (R, r, v, o, some V)) : zx_M l B m_Na_digits [.ref 51] (R, r, v, o, some V) Q := by
  intro h0 h r0 f0 xa
  rw [pad_m, ent_m]
  have hJ : Nv B h 51 226 V := xa.2.2.2.2.2.1
  exact v_digits hG hl hJ (zx_ret (v := some (.int (nI (dg V)))) f0 xa hq)
theorem x_digitsR (hG : zd_G B) (hl : l.stackTraces = false) {i : Nat} (hi : i < 10) (hq : Q (.inl (some (.int (nI (dg (R i).2.1))))) (R, r, v, o, c)) : zx_M l B m_Na_digits [.ref (3 + 3 * i : Nat)] (R, r, v, o, c) Q := by
  intro h0 h r0 f0 xa
  rw [pad_m, ent_m]
  have hJ := xa.reg hi
  exact v_digits hG hl hJ (zx_ret (v := some (.int (nI (dg (R i).2.1)))) f0 xa hq)
theorem x_digitAt47 (hG : zd_G B) (hl : l.stackTraces = false) {V : Nat} (hq : Q (.inl (some (.int (nI (V % 10))))) (R, r, some V, o, c)) : zx_M l B m_Na_digitAt [.ref 47, .int 0] (R, r, some V, o, c) Q := by
  intro h0 h r0 f0 xa
  rw [pad_m, ent_m]
  have hJ : Nv B h 47 226 V := xa.2.2.2.1
  refine v_digitAt (p := 0) hG hl hJ (by decide) ?_
  rw [Nat.pow_zero, Nat.div_one]
  exact zx_ret (v := some (.int (nI (V % 10)))) f0 xa hq
theorem x_digitAtR (hG : zd_G B) (hl : l.stackTraces = false) {i p : Nat} (hi : i < 10) (hp : p < 2 ^ 31) (hq : Q (.inl (some (.int (nI ((R i).2.1 / 10 ^ p % 10))))) (R, r, v, o, c)) : zx_M l B m_Na_digitAt [.ref (3 + 3 * i : Nat), .int (nI p)] (R, r, v, o, c) Q := by
  intro h0 h r0 f0 xa
  rw [pad_m, ent_m]
  have hJ := xa.reg hi
  exact v_digitAt hG hl hJ hp (zx_ret (v := some (.int (nI ((R i).2.1 / 10 ^ p % 10)))) f0 xa hq)
theorem x_tz47 (hG : zd_G B) (hl : l.stackTraces = false) {V : Nat} (hV : V ≠ 0) (hq : Q (.inl (some (.int (nI (tz V))))) (R, r, some V, o, c)) : zx_M l B m_Na_trailingZeros [.ref 47] (R, r, some V, o, c) Q := by
  intro h0 h r0 f0 xa
  rw [pad_m, ent_m]
  have hJ : Nv B h 47 226 V := xa.2.2.2.1
  refine v_trailingZeros hG hl hJ hV (fun t a1 a2 => ?_)
  rw [← tz_eq a1 a2]
  exact zx_ret (v := some (.int (nI (tz V)))) f0 xa hq
theorem x_become47 (hG : zd_G B) (hl : l.stackTraces = false) {x : Int} (hx : lR x) (hq : Q (.inl none) (R, r, some x.natAbs, o, c)) : zx_M l B m_Na_become [.ref 47, .long (lI x)] (R, r, v, o, c) Q := by
  intro h0 h r0 f0 xa
  rw [pad_m, ent_m]
  exact v_become hG hl xa.2.2.2.1.s (by decide) hx (r0.kept f0) (fun h1 a2 a3 => zx_ret (f0.tr0 (a2.mono xs47)) (xa.n47 (o := some _) a2 a3) hq)
theorem x_inc47 (hG : zd_G B) (hl : l.stackTraces = false) {V : Nat} (hn : V + 1 < 1000000000 ^ 226) (hq : Q (.inl none) (R, r, some (V + 1), o, c)) : zx_M l B m_Na_increment [.ref 47] (R, r, some V, o, c) Q := by
  intro h0 h r0 f0 xa
  rw [pad_m, ent_m]
  have hJ : Nv B h 47 226 V := xa.2.2.2.1
  exact v_increment2 hG hl hJ (r0.kept f0) hn (fun h1 a2 a3 => zx_ret (f0.tr0 (a2.mono xs47)) (xa.n47 (o := some _) a2 a3) hq)
theorem x_sign (hG : zd_G B) (hl : l.stackTraces = false) {i : Nat} (hi : i < 10) (hq : Q (.inl (some (.int (iI (sgn (R i)))))) (R, r, v, o, c)) : zx_M l B m_Dc_sign [.ref (2 + 3 * i : Nat)] (R, r, v, o, c) Q := by
  intro h0 h r0 f0 xa
  rw [pad_m, ent_m]
  refine c_Dc_sign hG hl (xa.2.1 i hi) ?_
  exact zx_ret (v := some (.int (iI (sgn (R i))))) f0 xa hq
theorem x_max (hG : zd_G B) (hl : l.stackTraces = false) {x y : Int} {a : zx} (hx : iR x) (hy : iR y) (hq : Q (.inl (some (.int (iI (max x y))))) a) : zx_M l B m_Ma_max [.int (iI x), .int (iI y)] a Q := by
  intro h0 h r0 f0 xa
  rw [pad_m, ent_m]
  refine c_Ma_max hG hl ?_
  rw [show (if iI x < iI y then iI y else iI x) = iI (max x y) by
    simp only [iI_lt hx hy]
    split
    · rw [show max x y = y by omega]
    · rw [show max x y = x by omega]]
  exact zx_ret (v := some (.int (iI (max x y)))) f0 xa hq
theorem x_min (hG : zd_G B) (hl : l.stackTraces = false) {x y : Int} {a : zx} (hx : iR x) (hy : iR y) (hq : Q (.inl (some (.int (iI (min x y))))) a) : zx_M l B m_Ma_min [.int (iI x), .int (iI y)] a Q := by
  intro h0 h r0 f0 xa
  rw [pad_m, ent_m]
  refine c_Ma_min hG hl ?_
  rw [show (if iI y < iI x then iI y else iI x) = iI (min x y) by
    simp only [iI_lt hy hx]
    split
    · rw [show min x y = y by omega]
    · rw [show min x y = x by omega]]
  exact zx_ret (v := some (.int (iI (min x y)))) f0 xa hq
theorem x_cmp (hG : zd_G B) (hl : l.stackTraces = false) {x y : Int} {a : zx} (hx : iR x) (hy : iR y) (hq : Q (.inl (some (.int (cmpI x y)))) a) : zx_M l B m_In_compare [.int (iI x), .int (iI y)] a Q := by
  intro h0 h r0 f0 xa
  rw [pad_m, ent_m]
  refine c_In_compare hG hl ?_
  unfold cmpI at hq
  simp only [iI_lt hx hy, iI_eq hx hy]
  exact zx_ret (v := some (.int (if x < y then -1 else if x = y then 0 else 1))) f0 xa hq
theorem x_fdiv (hG : zd_G B) (hl : l.stackTraces = false) {x y : Int} {a : zx} (hx : iR x) (hy : iR y) (h1 : 0 < y) (hq : Q (.inl (some (.int (iI (x / y))))) a) : zx_M l B m_Ma_floorDiv [.int (iI x), .int (iI y)] a Q := by
  intro h0 h r0 f0 xa
  rw [pad_m, ent_m]
  exact c_Ma_floorDiv hG hl hx hy h1 (zx_ret (v := some (.int (iI (x / y)))) f0 xa hq)
end XA

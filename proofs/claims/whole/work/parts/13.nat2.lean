/-! Natural: copy, digits, digitAt, order -/
theorem Nt.cpy {B : zd_B} {h : zd_H} {k R n m : Nat} {g g2 : Nat → Nat} (hN : Nt B h k R g n) (hg : ∀ i, g2 i < 1000000000) : Nt B (zd_set h (zd_b0 B + k + 1) (.inr (.inl (0, R, va_cpy (fun i => nI (g2 i)) (fun i => nI (g i)) 0 0 m)))) k R (fun i => if i < m then g2 i else g i) n := by
  refine ⟨⟨hN.1.1, by rw [zd_set_n (by omega)]; exact hN.1.2⟩, ⟨hN.2.1.1, ?_⟩, hN.2.2.1, hN.2.2.2.1, fun j => ?_⟩
  · rw [zd_set_s]
    congr 4
    funext i
    unfold va_cpy
    by_cases e : i < m
    · rw [if_pos ⟨Nat.zero_le _, by omega⟩]
      show nI (g2 (0 + (i - 0))) = nI (if i < m then g2 i else g i)
      rw [if_pos e, Nat.zero_add, Nat.sub_zero]
    · rw [if_neg (fun q => e (by omega))]
      show nI (g i) = nI (if i < m then g2 i else g i)
      rw [if_neg e]
  · show (if j < m then g2 j else g j) < _
    split
    · exact hg j
    · exact hN.2.2.2.2 j
section NB
variable {l : Launch} {B : zd_B} {h : zd_H} {Q : zd_O → zd_H → Prop}
theorem c_Na_copy (hG : zd_G B) (hl : l.stackTraces = false) {k R n j R2 n2 : Nat} {g g2 : Nat → Nat} (hN : Nt B h k R g n) (hJ : Nt B h j R2 g2 n2) (hkj : k ≠ j) (hr : Rm h)
    (hok : ∀ h' g', n2 ≤ R → Fg B h h' (NS B k) 0 → Nt B h' k R g' n2 → (∀ i, i < n2 → g' i = g2 i) → Q (.inl none) h') (hth : ∀ h', R < n2 → Fx B h h' E0 11 → Q (.inr (zd_b0 B + h.1, 11)) h') : zd_M l B m_Na_copy [.ref (zd_b0 B + k), .ref (zd_b0 B + j)] h Q := by
  have hR := hN.2.2.2.1
  have hR2 := hJ.2.2.2.1
  have hn2 := hJ.2.2.1
  refine zd_go (ok_Na_copy hG hl) [] 30 ?_
  conv => whnf
  refine ⟨_, hJ.1, ?_⟩
  conv => whnf
  refine ⟨⟨_, hN.1⟩, ⟨rfl, Nat.zero_le _, Nat.le_of_ble_eq_true rfl⟩, ?_⟩
  refine c_Na_claim hG hl hN (by omega) hr (fun h1 a1 a2 a3 => ?_) (fun h1 a1 a2 => hth h1 a1 a2)
  have hJ1 := hJ.kept a2 (hN.apart hJ hkj).1 (hN.apart hJ hkj).2
  conv => whnf
  refine ⟨_, hJ1.1, ?_⟩
  conv => whnf
  refine ⟨_, a3.1, ?_⟩
  conv => whnf
  refine ⟨_, a3.1, ?_⟩
  conv => whnf
  refine ⟨R2, _, R, _, hJ1.2.1, a3.2.1, ⟨by decide, by decide, nI_pos (by omega), by rw [nI_clamp (by omega), sb_cl0]; omega, by rw [nI_clamp (by omega), sb_cl0]; omega, Nat.zero_le _⟩, ?_⟩
  rw [nI_clamp (by omega), sb_cl0]
  conv => whnf
  refine ⟨hok _ _ a1 ?_ (a3.cpy hJ.2.2.2.2) (fun i hi => if_pos hi), trivial⟩
  have := a2.tr (Fg.set (h := h1) (B := B) (c := .inr (.inl (0, R, va_cpy (fun i => nI (g2 i)) (fun i => nI (g i)) 0 0 n2))) (S := NS B k) (Or.inr rfl))
  simpa using this
theorem w_Na_digits (hG : zd_G B) (hl : l.stackTraces = false) {k R m : Nat} {g : Nat → Nat} (hN : Nt B h k R g (m + 1)) (hq : Q (.inl (some (.int (nI (dg (zv 1000000000 g (m + 1))))))) h) : ∀ (d c : Nat), c + 1 + d = 9 → 10 ^ c ≤ g m → zd_W l B m_Na_digits 11 [some (.ref (zd_b0 B + k)), some (.int (nI (c + 1)))] [] h Q := by
  have hR := hN.2.2.1
  have hR2 := hN.2.2.2.1
  have hgm := hN.2.2.2.2 m
  intro d
  induction d with
  | zero =>
    intro c hc hm
    have hc8 : c = 8 := by omega
    subst hc8
    refine zd_go (ok_Na_digits hG hl) [] 30 ?_
    conv => whnf
    refine ⟨fun z => ?_, fun z => absurd (by decide) z⟩
    conv => whnf
    refine ⟨_, hN.1, ?_⟩
    conv => whnf
    refine ⟨rfl, ?_, trivial⟩
    rw [zv_dg (c := 8) (fun i _ => hN.2.2.2.2 i) hm hgm] at hq
    rw [nI_pred, show (9 : Int32) = nI 9 from rfl, pk_mul, nI_add, show m * 9 + (8 + 1) = 9 * m + (8 + 1) by omega]
    exact hq
  | succ d ih =>
    intro c hc hm
    refine zd_go (ok_Na_digits hG hl) [11] 30 ?_
    conv => whnf
    refine ⟨fun z => absurd z (nI_ge (a := c + 1) (b := 9) (by omega) (by omega)), fun z => ?_⟩
    conv => whnf
    refine ⟨_, hN.1, ?_⟩
    conv => whnf
    refine ⟨_, hN.1, ?_⟩
    conv => whnf
    refine ⟨R, _, Or.inl hN.2.1, by rw [nI_pred]; exact vp_in_nI (by omega) (by omega), ?_⟩
    rw [nI_pred, nI_clamp (by omega)]
    conv => whnf
    refine ⟨10, _, Or.inr hG.2.2.2.2.1, vp_in_nI (by omega) (by omega), ?_⟩
    rw [nI_clamp (by omega)]
    conv => whnf
    have ht := zd_tens_lt (i := c + 1) (by omega)
    refine ⟨fun z => ?_, fun z => ?_⟩
    · have z' : g m < 10 ^ (c + 1) := (nI_ltI (by omega) ht).mp z
      conv => whnf
      refine ⟨_, hN.1, ?_⟩
      conv => whnf
      refine ⟨rfl, ?_, trivial⟩
      rw [zv_dg (c := c) (fun i _ => hN.2.2.2.2 i) hm z'] at hq
      rw [nI_pred, show (9 : Int32) = nI 9 from rfl, pk_mul, nI_add, show m * 9 + (c + 1) = 9 * m + (c + 1) by omega]
      exact hq
    · have z' : ¬ g m < 10 ^ (c + 1) := fun q => z ((nI_ltI (by omega) ht).mpr q)
      conv => whnf
      refine ⟨?_, trivial⟩
      show zd_W l B m_Na_digits 11 [some (.ref (zd_b0 B + k)), some (.int (nI (c + 1) + 1))] [] h Q
      rw [nI_1]
      exact ih (c + 1) (by omega) (by omega)
theorem c_Na_digits (hG : zd_G B) (hl : l.stackTraces = false) {k R n : Nat} {g : Nat → Nat} (hN : Nt B h k R g n) (hz : n = 0 ∨ g (n - 1) ≠ 0) (hq : Q (.inl (some (.int (nI (dg (zv 1000000000 g n)))))) h) : zd_M l B m_Na_digits [.ref (zd_b0 B + k)] h Q := by
  refine zd_go (ok_Na_digits hG hl) [11] 30 ?_
  conv => whnf
  refine ⟨_, hN.1, ?_⟩
  conv => whnf
  cases n with
  | zero =>
    refine ⟨fun z => absurd nI_0 z, fun z => ?_⟩
    conv => whnf
    refine ⟨rfl, ?_, trivial⟩
    rw [show zv 1000000000 g 0 = 0 from rfl, dg_0] at hq
    exact hq
  | succ m =>
    have hR := hN.2.2.1
    have hR2 := hN.2.2.2.1
    refine ⟨fun z => ?_, fun z => absurd z (nI_ne0 (by omega) (by omega))⟩
    conv => whnf
    refine ⟨w_Na_digits hG hl hN hq 8 0 (by omega) ?_, trivial⟩
    rcases hz with hz | hz
    · omega
    · have : g m ≠ 0 := hz
      show 1 ≤ g m
      omega
theorem c_Na_digitAt (hG : zd_G B) (hl : l.stackTraces = false) {k R n p : Nat} {g : Nat → Nat} (hN : Nt B h k R g n) (hp : p < 2 ^ 31) (hq : Q (.inl (some (.int (nI (zv 1000000000 g n / 10 ^ p % 10))))) h) : zd_M l B m_Na_digitAt [.ref (zd_b0 B + k), .int (nI p)] h Q := by
  have hR := hN.2.2.1
  have hR2 := hN.2.2.2.1
  have e9 : nI p / 9 = nI (p / 9) := pk_div (d := 9) hp (by omega) (by omega)
  have r9 : nI p - nI p / 9 * 9 = nI (p % 9) := pk_rem (d := 9) hp (by omega) (by omega)
  have h0 : ∀ {x : Nat}, n * 9 ≤ p → zv 1000000000 g n / 10 ^ p % 10 = 0 := by
    intro _ hx
    have a := zv_lt (b := 1000000000) (g := g) (n := n) (fun i _ => hN.2.2.2.2 i)
    rw [p9q] at a
    rw [Nat.div_eq_of_lt (Nat.lt_of_lt_of_le a (Nat.pow_le_pow_right (by decide) (by omega)))]
  refine zd_go (ok_Na_digitAt hG hl) [] 40 ?_
  conv => whnf
  refine ⟨fun z => absurd z (nI_pos hp), fun z => ?_⟩
  conv => whnf
  refine ⟨by decide, ?_⟩
  conv => whnf
  refine ⟨_, hN.1, ?_⟩
  conv => whnf
  refine ⟨fun z => ?_, fun z => ?_⟩
  · rw [e9] at z
    have z' : p / 9 < n := (nI_ltI (by omega) (by omega)).mp z
    conv => whnf
    refine ⟨_, hN.1, ?_⟩
    conv => whnf
    refine ⟨by decide, ?_⟩
    conv => whnf
    refine ⟨R, _, Or.inl hN.2.1, by rw [e9]; exact vp_in_nI (by omega) (by omega), ?_⟩
    rw [e9, nI_clamp (by omega)]
    conv => whnf
    refine ⟨by decide, ?_⟩
    conv => whnf
    refine ⟨10, _, Or.inr hG.2.2.2.2.1, by rw [r9]; exact vp_in_nI (by omega) (by omega), ?_⟩
    rw [r9, nI_clamp (by omega)]
    have ht := zd_tens_lt (i := p % 9) (by omega)
    have hp0 : 0 < 10 ^ (p % 9) := Nat.pow_pos (by decide)
    have hg := hN.2.2.2.2 (p / 9)
    conv => whnf
    refine ⟨nI_ne0 hp0 ht, ?_⟩
    rw [show zd_tens (p % 9) = nI (10 ^ (p % 9)) from rfl, pk_div (by omega) hp0 ht]
    conv => whnf
    refine ⟨by decide, ?_⟩
    have hd : g (p / 9) / 10 ^ (p % 9) < 2 ^ 31 := Nat.lt_of_le_of_lt (Nat.div_le_self _ _) (by omega)
    rw [show nI (g (p / 9) / 10 ^ (p % 9)) - nI (g (p / 9) / 10 ^ (p % 9)) / 10 * 10 = nI (g (p / 9) / 10 ^ (p % 9) % 10) from pk_rem (d := 10) hd (by omega) (by omega)]
    conv => whnf
    refine ⟨rfl, ?_, trivial⟩
    have e := zv_digit (g := g) (n := n) (q := p / 9) (r := p % 9) z' (by omega) (fun i _ => hN.2.2.2.2 i)
    rw [show 9 * (p / 9) + p % 9 = p by omega] at e
    rw [e] at hq
    exact hq
  · rw [e9] at z
    have z' : ¬ p / 9 < n := fun q => z ((nI_ltI (by omega) (by omega)).mpr q)
    conv => whnf
    refine ⟨rfl, ?_, trivial⟩
    rw [h0 (x := 0) (by omega)] at hq
    exact hq
end NB

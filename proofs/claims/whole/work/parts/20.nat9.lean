/-! Natural: moveDown, entry -/
theorem zv_eq0 {b : Nat} (hb : 0 < b) {g : Nat → Nat} {n : Nat} (h : zv b g n = 0) : ∀ i, i < n → g i = 0 := by
  induction n with
  | zero => intro i hi; omega
  | succ n ih =>
    rw [zv_succ] at h
    intro i hi
    by_cases e : i = n
    · have h1 : g n * b ^ n = 0 := by omega
      have h2 : 0 < b ^ n := Nat.pow_pos hb
      rw [e]
      exact (Nat.mul_eq_zero.mp h1).elim id (fun q => by omega)
    · exact ih (by omega) i (by omega)
theorem zv_pos {g : Nat → Nat} {n : Nat} (hn : 0 < n) (hz : n = 0 ∨ g (n - 1) ≠ 0) : zv 1000000000 g n ≠ 0 := fun e => by
  have := zv_eq0 (by decide) e (n - 1) (by omega)
  rcases hz with hz | hz
  · omega
  · exact hz this
theorem zv_lt10 {g : Nat → Nat} {n : Nat} (h : ∀ i, g i < 1000000000) : zv 1000000000 g n < 10 ^ (9 * n) := by
  have := zv_lt (b := 1000000000) (g := g) (n := n) (fun i _ => h i)
  rwa [p9q] at this
/-- what shifting down keeps, and what it loses -/
theorem zv_down {g : Nat → Nat} {n p w r : Nat} (hg : ∀ i, g i < 1000000000) (hp : p = 9 * w + r) (hr : r < 9) (hw : w < n) :
    zv 1000000000 g n / 10 ^ p = zv 1000000000 (fun j => g (w + j)) (n - w) / 10 ^ r ∧ (zv 1000000000 g n % 10 ^ p ≠ 0 ↔ (g w % 10 ^ r ≠ 0 ∨ ∃ q, q < w ∧ g q ≠ 0)) := by
  have e0 : n = w + (n - w) := by omega
  have hd : zv 1000000000 g n / 1000000000 ^ w = zv 1000000000 (fun j => g (w + j)) (n - w) := by
    conv => lhs; rw [e0]
    exact zv_div (by decide) _ (fun i _ => hg i)
  have hm : zv 1000000000 g n % 1000000000 ^ w = zv 1000000000 g w := by
    conv => lhs; rw [e0]
    exact zv_mod _ (fun i _ => hg i)
  have hu : zv 1000000000 (fun j => g (w + j)) (n - w) % 10 ^ r = g w % 10 ^ r := by
    have := zv_from (b := 1000000000) (g := fun j => g (w + j)) (n := n - w) (q := 0) (by decide) (by omega) (fun i _ => hg _)
    rw [Nat.pow_zero, Nat.div_one] at this
    rw [this, ← pow_hl (r := r) (by omega), Nat.mul_assoc, Nat.add_mul_mod_self_left]
    rfl
  refine ⟨by rw [hp, Nat.pow_add, ← p9q, ← Nat.div_div_eq_div_mul, hd], ?_⟩
  have hmm : zv 1000000000 g n % 10 ^ p = zv 1000000000 g w + 1000000000 ^ w * (g w % 10 ^ r) := by
    rw [hp, Nat.pow_add, ← p9q, Nat.mod_mul, hd, hm, hu]
  rw [hmm]
  have hpw : 0 < 1000000000 ^ w := Nat.pow_pos (by decide)
  constructor
  · intro h
    by_cases e : g w % 10 ^ r = 0
    · right
      rw [e, Nat.mul_zero, Nat.add_zero] at h
      by_cases hx : ∃ q, q < w ∧ g q ≠ 0
      · exact hx
      · exact absurd (zv_zero (fun i hi => by
          by_cases e2 : g i = 0
          · exact e2
          · exact absurd ⟨i, hi, e2⟩ hx)) h
    · exact Or.inl e
  · rintro (h | ⟨q, q1, q2⟩) e
    · have : 1000000000 ^ w * (g w % 10 ^ r) = 0 := by omega
      exact (Nat.mul_eq_zero.mp this).elim (fun q => by omega) h
    · exact q2 (zv_eq0 (b := 1000000000) (by decide) (by omega) q q1)
theorem ind_nI (b : Prop) [Decidable b] : (if b then (1 : Int32) else 0) = nI (if b then 1 else 0) := by split <;> decide
section NH
variable {l : Launch} {B : zd_B} {h : zd_H} {Q : zd_O → zd_H → Prop}
theorem c_Na_moveDown (hG : zd_G B) (hl : l.stackTraces = false) {k R n p : Nat} {g : Nat → Nat} (hN : Nt B h k R g n) (hn : 0 < n) (hz : n = 0 ∨ g (n - 1) ≠ 0) (hp : p < 2 ^ 31)
    (hq : ∀ h' g' n' lost, Fg B h h' (NS B k) 0 → Nt B h' k R g' n' → (n' = 0 ∨ g' (n' - 1) ≠ 0) → zv 1000000000 g' n' = zv 1000000000 g n / 10 ^ p → lost ≤ 1 → (lost = 1 ↔ zv 1000000000 g n % 10 ^ p ≠ 0) → Q (.inl (some (.int (nI lost)))) h') :
    zd_M l B m_Na_moveDown [.ref (zd_b0 B + k), .int (nI p)] h Q := by
  have r1 := hN.2.2.1
  have r2 := hN.2.2.2.1
  have e9 : nI p / 9 = nI (p / 9) := pk_div (d := 9) hp (by omega) (by omega)
  have r9 : nI p - nI p / 9 * 9 = nI (p % 9) := pk_rem (d := 9) hp (by omega) (by omega)
  refine zd_go (ok_Na_moveDown hG hl) [51] 60 ?_
  conv => whnf
  refine ⟨by decide, ?_⟩
  conv => whnf
  refine ⟨_, hN.1, ?_⟩
  conv => whnf
  refine ⟨fun z => ?_, fun z => ?_⟩
  · rw [e9] at z
    have z' : p / 9 < n := (nI_ltI (by omega) (by omega)).mp z
    have ht := zd_tens_lt (i := p % 9) (by omega)
    have hp0 : 0 < 10 ^ (p % 9) := Nat.pow_pos (by decide)
    have hlow : 10 ^ (p % 9) ≤ 1000000000 := Nat.le_trans (Nat.pow_le_pow_right (by decide) (show p % 9 ≤ 9 by omega)) (by decide)
    have hd := zv_down (g := g) (n := n) (p := p) (w := p / 9) (r := p % 9) hN.2.2.2.2 (by omega) (by omega) z'
    have hgw := hN.2.2.2.2 (p / 9)
    have fin : ∀ lost0, lost0 ≤ 1 → (lost0 = 1 ↔ g (p / 9) % 10 ^ (p % 9) ≠ 0) → zd_W l B m_Na_moveDown 51 [some (.ref (zd_b0 B + k)), some (.int (nI p)), some (.int (nI (p / 9))), some (.int (nI (10 ^ (p % 9)))), some (.int (nI (10 ^ (9 - p % 9)))), none, none, none] [.int (nI lost0)] h Q := by
      intro lost0 h1 h2
      refine zd_go (ok_Na_moveDown hG hl) [56] 60 ?_
      conv => whnf
      refine ⟨?_, trivial⟩
      have := w_Na_down56 (p := nI p) (lowv := nI (10 ^ (p % 9))) (highv := nI (10 ^ (9 - p % 9))) (P0 := g (p / 9) % 10 ^ (p % 9) ≠ 0) hG hl hN z' (Q := Q) (fun lost b1 b2 w6 => ?_) (p / 9) 0 lost0 (by omega) h1 ⟨fun a => Or.inl (h2.mp a), fun a => by
        rcases a with a | ⟨q, q1, q2⟩
        · exact h2.mpr a
        · omega⟩
      · exact this
      · refine zd_go (ok_Na_moveDown hG hl) [93] 60 ?_
        conv => whnf
        refine ⟨?_, trivial⟩
        exact w_Na_down93 (h := h) hG hl (pow_hl (by omega)) hp0 hlow z' b1 (fun h' g' n' c1 c2 c3 c4 c5 => hq h' g' n' lost c1 c2 c3 (by rw [c4, hd.1]) b1 (b2.trans hd.2.symm)) (n - p / 9) 0 h g none (by omega) Fg.rf hN (fun q _ => rfl) (by rw [Nat.add_zero, zm_in z']; simp [zv])
    conv => whnf
    refine ⟨by decide, ?_⟩
    conv => whnf
    refine ⟨10, _, Or.inr hG.2.2.2.2.1, by rw [r9]; exact vp_in_nI (by omega) (by omega), ?_⟩
    rw [r9, nI_clamp (by omega), show zd_tens (p % 9) = nI (10 ^ (p % 9)) from rfl]
    conv => whnf
    refine ⟨nI_ne0 hp0 ht, ?_⟩
    conv => whnf
    refine ⟨_, hN.1, ?_⟩
    conv => whnf
    refine ⟨_, _, Or.inl hN.2.1, by rw [e9]; exact vp_in_nI (by omega) (by omega), ?_⟩
    rw [e9, nI_clamp (by omega), show (1000000000 : Int32) = nI 1000000000 from rfl, pk_div (by omega) hp0 ht, ← pow_hl (r := p % 9) (by omega), Nat.mul_div_cancel_left _ hp0]
    conv => whnf
    refine ⟨nI_ne0 hp0 ht, ?_⟩
    conv => whnf
    rw [pk_rem (by omega) hp0 ht]
    have hrl : g (p / 9) % 10 ^ (p % 9) < 2 ^ 31 := Nat.lt_of_le_of_lt (Nat.mod_le _ _) (by omega)
    refine ⟨fun z => ?_, fun z => ?_⟩
    · conv => whnf
      have z2 : g (p / 9) % 10 ^ (p % 9) = 0 := (nI_eq hrl (by omega)).mp (z.trans nI_0.symm)
      exact ⟨fin 0 (by omega) ⟨fun a => by omega, fun a => absurd z2 a⟩, trivial⟩
    · conv => whnf
      have z2 : g (p / 9) % 10 ^ (p % 9) ≠ 0 := fun e => z (by rw [e]; exact nI_0)
      exact ⟨fin 1 (by omega) ⟨fun _ => z2, fun _ => rfl⟩, trivial⟩
  · rw [e9] at z
    have z' : n ≤ p / 9 := Nat.not_lt.mp (fun q => z ((nI_ltI (by omega) (by omega)).mpr q))
    conv => whnf
    refine ⟨_, hN.1, Nat.le_of_ble_eq_true rfl, ⟨rfl, rfl⟩, ?_⟩
    conv => whnf
    refine ⟨rfl, ?_, trivial⟩
    have hlt : zv 1000000000 g n < 10 ^ p := Nat.lt_of_lt_of_le (zv_lt10 hN.2.2.2.2) (Nat.pow_le_pow_right (by decide) (by omega))
    exact hq _ g 0 1 (Fg.set (Or.inl rfl)) (hN.size (n' := 0) (by omega)) (Or.inl rfl) (by rw [Nat.div_eq_of_lt hlt]; rfl) (by omega) ⟨fun _ => by rw [Nat.mod_eq_of_lt hlt]; exact zv_pos hn hz, fun _ => rfl⟩
end NH

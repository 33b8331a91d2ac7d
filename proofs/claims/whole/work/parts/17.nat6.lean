/-! Natural: raiseBy, openDigits, setDigit -/
section NF
variable {l : Launch} {B : zd_B} {h : zd_H} {Q : zd_O → zd_H → Prop}
/-- raiseBy: behind the second limb: the sum is on the stack -/
theorem w_Na_raise79 (hG : zd_G B) (hl : l.stackTraces = false) {k R n j m b4 : Nat} {g : Nat → Nat} (hN : Nt B h k R g n) {i ca x y : Nat} {w : Option Value} (hi : i < n) (hca : ca ≤ 1) (hx : x < 1000000000) (hy : y < 1000000000)
    (kk : ∀ (ca' v : Nat) (w' : Option Value), ca' ≤ 1 → v < 1000000000 → v + ca' * 1000000000 = ca + x + y → zd_W l B m_Na_raiseBy 30 [some (.ref (zd_b0 B + k)), some (.ref (zd_b0 B + j)), some (.int (nI m)), some (.int (nI b4)), some (.int (nI ca')), some (.int (nI (i + 1))), w'] [] (zd_set h (zd_b0 B + k + 1) (.inr (.inl (0, R, upd (fun i => nI (g i)) i (nI v))))) Q) :
    zd_W l B m_Na_raiseBy 79 [some (.ref (zd_b0 B + k)), some (.ref (zd_b0 B + j)), some (.int (nI m)), some (.int (nI b4)), some (.int (nI ca)), some (.int (nI i)), w] [.int (nI y), .int (nI ca + nI x - 1000000000)] h Q := by
  have r1 := hN.2.2.1
  have r2 := hN.2.2.2.1
  have e0 : nI ca + nI x - 1000000000 + nI y = iI ((ca : Int) + x - 1000000000 + y) := by rw [iI_nI, iI_nI, iI_nI, show (1000000000 : Int32) = iI 1000000000 from rfl, iI_add, iI_sub, iI_add]
  have c0 : (iI ((ca : Int) + x - 1000000000 + y) < (0 : Int32)) ↔ (ca : Int) + x - 1000000000 + y < (0 : Int) := iI_lt (b := 0) ⟨by omega, by omega⟩ ⟨by omega, by omega⟩
  refine zd_go (ok_Na_raiseBy hG hl) [30] 50 ?_
  conv => whnf
  rw [e0]
  refine ⟨fun z => ?_, fun z => ?_⟩
  · have z' := c0.mp z
    conv => whnf
    refine ⟨_, hN.1, ?_⟩
    conv => whnf
    refine ⟨fun z => ?_, fun z2 => absurd z z2⟩
    conv => whnf
    refine ⟨R, _, hN.2.1, vp_in_nI (by omega) (by omega), ?_⟩
    rw [nI_clamp (by omega), show iI ((ca : Int) + x - 1000000000 + y) + 1000000000 = nI (ca + x + y) by rw [show (1000000000 : Int32) = iI 1000000000 from rfl, iI_add, iI_nI]; congr 1; omega]
    conv => whnf
    refine ⟨?_, trivial⟩
    have := kk 0 (ca + x + y) (some (.int (iI ((ca : Int) + x - 1000000000 + y)))) (by omega) (by omega) (by omega)
    rw [← nI_1 i] at this
    exact this
  · have z' : ¬ (ca : Int) + x - 1000000000 + y < (0 : Int) := fun q => z (c0.mpr q)
    conv => whnf
    refine ⟨_, hN.1, ?_⟩
    conv => whnf
    refine ⟨fun z2 => absurd z2 z, fun z => ?_⟩
    conv => whnf
    refine ⟨R, _, hN.2.1, vp_in_nI (by omega) (by omega), ?_⟩
    rw [nI_clamp (by omega), show iI ((ca : Int) + x - 1000000000 + y) = nI (ca + x + y - 1000000000) by rw [iI_nI]; congr 1; omega]
    conv => whnf
    refine ⟨?_, trivial⟩
    have := kk 1 (ca + x + y - 1000000000) (some (.int (nI (ca + x + y - 1000000000)))) (by omega) (by omega) (by omega)
    rw [← nI_1 i] at this
    exact this
theorem w_Na_raise (hG : zd_G B) (hl : l.stackTraces = false) {k R n j R2 n2 m : Nat} {g0 g2 : Nat → Nat} (hkj : k ≠ j) (hn : n ≤ m) (hn2 : n2 ≤ m) (hmR : m + 1 ≤ R)
    (hq : ∀ h' g' n', Fg B h h' (NS B k) 0 → Nt B h' k R g' n' → (n' = 0 ∨ g' (n' - 1) ≠ 0) → zv 1000000000 g' n' = zv 1000000000 g0 n + zv 1000000000 g2 n2 → n' ≤ m + 1 → Q (.inl none) h') :
    ∀ (d i : Nat) (h1 : zd_H) (g : Nat → Nat) (ca : Nat) (w : Option Value), i + d = m → Fg B h h1 (NS B k) 0 → Nt B h1 k R g (m + 1) → Nt B h1 j R2 g2 n2 → (∀ q, i ≤ q → g q = g0 q) → ca ≤ 1 → zv 1000000000 g i + ca * 1000000000 ^ i = zv 1000000000 (zm g0 n) i + zv 1000000000 (zm g2 n2) i → zd_W l B m_Na_raiseBy 30 [some (.ref (zd_b0 B + k)), some (.ref (zd_b0 B + j)), some (.int (nI m)), some (.int (nI n)), some (.int (nI ca)), some (.int (nI i)), w] [] h1 Q := by
  intro d
  induction d with
  | zero =>
    intro i h1 g ca w hd f hN hJ hj hca hv
    have hi : i = m := by omega
    subst hi
    have r2 := hN.2.2.2.1
    refine zd_go (ok_Na_raiseBy hG hl) [] 50 ?_
    conv => whnf
    refine ⟨fun z => ?_, fun z => absurd (Int32.le_refl _) z⟩
    conv => whnf
    refine ⟨_, hN.1, ?_⟩
    conv => whnf
    refine ⟨R, _, hN.2.1, vp_in_nI (by omega) (by omega), ?_⟩
    rw [nI_clamp (by omega)]
    conv => whnf
    have hN2 := hN.put (i := i) (v := ca) (by omega)
    refine ⟨⟨_, hN2.1⟩, ⟨rfl, Nat.zero_le _, Nat.le_of_ble_eq_true rfl⟩, ?_⟩
    refine c_Na_trim hG hl hN2 (fun n' h2 a1 a2 a3 a4 a5 => ?_)
    conv => whnf
    refine ⟨hq h2 _ n' ((f.set2 (Or.inr rfl)).tr0 a4) a5 a3 ?_ a1, trivial⟩
    have w1 : zv 1000000000 (zm g0 n) i = zv 1000000000 g0 n := by
      have := zv_zm 1000000000 g0 n (i - n)
      rwa [show n + (i - n) = i by omega] at this
    have w2 : zv 1000000000 (zm g2 n2) i = zv 1000000000 g2 n2 := by
      have := zv_zm 1000000000 g2 n2 (i - n2)
      rwa [show n2 + (i - n2) = i by omega] at this
    rw [a2, zv_succ, zu_s, zv_zu_out (Nat.le_refl _), hv, w1, w2]
  | succ d ih =>
    intro i h1 g ca w hd f hN hJ hj hca hv
    have r2 := hN.2.2.2.1
    have r3 := hJ.2.2.1
    have r4 := hJ.2.2.2.1
    have gi0 : zm g0 n i < 1000000000 := zm_lt (by rw [← hj i (Nat.le_refl _)]; exact hN.2.2.2.2 i)
    have body : zd_W l B m_Na_raiseBy 79 [some (.ref (zd_b0 B + k)), some (.ref (zd_b0 B + j)), some (.int (nI m)), some (.int (nI n)), some (.int (nI ca)), some (.int (nI i)), w] [.int (nI (zm g2 n2 i)), .int (nI ca + nI (zm g0 n i) - 1000000000)] h1 Q := by
      refine w_Na_raise79 hG hl hN (by omega) hca gi0 (zm_lt (hJ.2.2.2.2 i)) (fun ca' v w' b1 b2 b3 => ?_)
      refine ih (i + 1) _ (zu g i v) ca' w' (by omega) (f.set2 (Or.inr rfl)) (hN.put b2) (hJ.kept (Fg.set (S := NS B k) (Or.inr rfl)) (hN.apart hJ hkj).1 (hN.apart hJ hkj).2) (fun q hq2 => by rw [zu_n (by omega)]; exact hj q (by omega)) b1 ?_
      rw [zv_succ, zu_s, zv_zu_out (Nat.le_refl _), zv_succ, zv_succ, Nat.pow_succ]
      have e5 : (v + ca' * 1000000000) * 1000000000 ^ i = (ca + zm g0 n i + zm g2 n2 i) * 1000000000 ^ i := by rw [b3]
      rw [Nat.add_mul, Nat.add_mul, Nat.add_mul, Nat.mul_assoc ca', Nat.mul_comm 1000000000 (1000000000 ^ i)] at e5
      omega
    have mid : zd_W l B m_Na_raiseBy 55 [some (.ref (zd_b0 B + k)), some (.ref (zd_b0 B + j)), some (.int (nI m)), some (.int (nI n)), some (.int (nI ca)), some (.int (nI i)), w] [.int (nI (zm g0 n i)), .int (nI ca)] h1 Q := by
      refine zd_go (ok_Na_raiseBy hG hl) [79] 50 ?_
      conv => whnf
      refine ⟨_, hJ.1, ?_⟩
      conv => whnf
      refine ⟨fun z => ?_, fun z => ?_⟩
      · have z' : n2 ≤ i := (nI_leI (by omega) (by omega)).mp z
        rw [zm_out z'] at body
        conv => whnf
        exact ⟨body, trivial⟩
      · have z' : ¬ n2 ≤ i := fun q => z ((nI_leI (by omega) (by omega)).mpr q)
        rw [zm_in (g := g2) (by omega)] at body
        conv => whnf
        refine ⟨_, hJ.1, ?_⟩
        conv => whnf
        refine ⟨R2, _, Or.inl hJ.2.1, vp_in_nI (by omega) (by omega), ?_⟩
        rw [nI_clamp (by omega)]
        conv => whnf
        exact ⟨body, trivial⟩
    refine zd_go (ok_Na_raiseBy hG hl) [30, 55] 50 ?_
    conv => whnf
    refine ⟨fun z => absurd z (nI_ge (by omega) (by omega)), fun z => ?_⟩
    conv => whnf
    refine ⟨fun z => ?_, fun z => ?_⟩
    · have z' : n ≤ i := (nI_leI (by omega) (by omega)).mp z
      rw [zm_out z'] at mid
      conv => whnf
      exact ⟨mid, trivial⟩
    · have z' : ¬ n ≤ i := fun q => z ((nI_leI (by omega) (by omega)).mpr q)
      rw [zm_in (g := g0) (by omega), ← hj i (Nat.le_refl _)] at mid
      conv => whnf
      refine ⟨_, hN.1, ?_⟩
      conv => whnf
      refine ⟨R, _, Or.inl hN.2.1, vp_in_nI (by omega) (by omega), ?_⟩
      rw [nI_clamp (by omega)]
      conv => whnf
      exact ⟨mid, trivial⟩
theorem c_Na_raiseBy (hG : zd_G B) (hl : l.stackTraces = false) {k R n j R2 n2 : Nat} {g g2 : Nat → Nat} (hN : Nt B h k R g n) (hJ : Nt B h j R2 g2 n2) (hkj : k ≠ j) (hr : Rm h)
    (hq : ∀ h' g' n', (if n < n2 then n2 else n) + 1 ≤ R → Fg B h h' (NS B k) 0 → Nt B h' k R g' n' → (n' = 0 ∨ g' (n' - 1) ≠ 0) → zv 1000000000 g' n' = zv 1000000000 g n + zv 1000000000 g2 n2 → n' ≤ (if n < n2 then n2 else n) + 1 → Q (.inl none) h')
    (hth : ∀ h', R < (if n < n2 then n2 else n) + 1 → Fx B h h' E0 11 → Q (.inr (zd_b0 B + h.1, 11)) h') : zd_M l B m_Na_raiseBy [.ref (zd_b0 B + k), .ref (zd_b0 B + j)] h Q := by
  have r1 := hN.2.2.1
  have r2 := hN.2.2.2.1
  have r3 := hJ.2.2.1
  have r4 := hJ.2.2.2.1
  obtain ⟨m, em⟩ : ∃ m, m = (if n < n2 then n2 else n) := ⟨_, rfl⟩
  rw [← em] at hth
  have hm1 : n ≤ m := by rw [em]; split <;> omega
  have hm2 : n2 ≤ m := by rw [em]; split <;> omega
  have hm3 : m < 1000 := by rw [em]; split <;> omega
  refine zd_go (ok_Na_raiseBy hG hl) [30] 50 ?_
  conv => whnf
  refine ⟨_, hN.1, ?_⟩
  conv => whnf
  refine ⟨_, hJ.1, ?_⟩
  conv => whnf
  refine ⟨⟨rfl, Nat.zero_le _, Nat.le_of_ble_eq_true rfl⟩, ?_⟩
  refine c_Ma_max hG hl ?_
  have e1 : (if nI n < nI n2 then nI n2 else nI n) = nI m := by
    rw [em]
    by_cases hx : n < n2
    · rw [if_pos hx, if_pos ((nI_ltI (by omega) (by omega)).mpr hx)]
    · rw [if_neg hx, if_neg (fun q => hx ((nI_ltI (by omega) (by omega)).mp q))]
  rw [e1]
  conv => whnf
  refine ⟨_, hN.1, ?_⟩
  conv => whnf
  refine ⟨⟨_, hN.1⟩, ⟨rfl, Nat.zero_le _, Nat.le_of_ble_eq_true rfl⟩, ?_⟩
  rw [nI_1]
  refine c_Na_claim hG hl hN (by omega) hr (fun h1 a1 a2 a3 => ?_) (fun h1 a1 a2 => hth h1 a1 a2)
  conv => whnf
  refine ⟨?_, trivial⟩
  exact w_Na_raise hG hl hkj hm1 hm2 a1 (fun h' g' n' b1 b2 b3 b4 b5 => hq h' g' n' (by rw [← em]; exact a1) b1 b2 b3 b4 (by rw [← em]; exact b5)) m 0 h1 g 0 none (by omega) a2 a3 (hJ.kept a2 (hN.apart hJ hkj).1 (hN.apart hJ hkj).2) (fun q _ => rfl) (by omega) (by simp [zv])
/-- zeros written -/
theorem w_Na_open (hG : zd_G B) (hl : l.stackTraces = false) {k R n : Nat} {c1 : Int32}
    (hq : ∀ h' g', Fg B h h' (NS B k) 0 → Nt B h' k R g' n → (∀ i, i < n → g' i = 0) → Q (.inl none) h') :
    ∀ (d i : Nat) (h1 : zd_H) (g : Nat → Nat), i + d = n → Fg B h h1 (NS B k) 0 → Nt B h1 k R g n → (∀ q, q < i → g q = 0) → zd_W l B m_Na_openDigits 15 [some (.ref (zd_b0 B + k)), some (.int c1), some (.int (nI i))] [] h1 Q := by
  intro d
  induction d with
  | zero =>
    intro i h1 g hd f hN hj
    have hi : i = n := by omega
    subst hi
    refine zd_go (ok_Na_openDigits hG hl) [] 50 ?_
    conv => whnf
    refine ⟨_, hN.1, ?_⟩
    conv => whnf
    refine ⟨fun z => ?_, fun z => absurd (Int32.le_refl _) z⟩
    conv => whnf
    exact ⟨hq h1 g f hN hj, trivial⟩
  | succ d ih =>
    intro i h1 g hd f hN hj
    have r1 := hN.2.2.1
    have r2 := hN.2.2.2.1
    refine zd_go (ok_Na_openDigits hG hl) [15] 50 ?_
    conv => whnf
    refine ⟨_, hN.1, ?_⟩
    conv => whnf
    refine ⟨fun z => absurd z (nI_ge (by omega) (by omega)), fun z => ?_⟩
    conv => whnf
    refine ⟨_, hN.1, ?_⟩
    conv => whnf
    refine ⟨R, _, hN.2.1, vp_in_nI (by omega) (by omega), ?_⟩
    rw [nI_clamp (by omega)]
    conv => whnf
    refine ⟨?_, trivial⟩
    show zd_W l B m_Na_openDigits 15 [some (.ref (zd_b0 B + k)), some (.int c1), some (.int (nI i + 1))] [] _ Q
    rw [nI_1]
    refine ih (i + 1) _ (zu g i 0) (by omega) (f.set2 (Or.inr rfl)) (hN.put (v := 0) (by omega)) (fun q hq2 => ?_)
    unfold zu
    split
    · rfl
    · exact hj q (by omega)
theorem c_Na_openDigits (hG : zd_G B) (hl : l.stackTraces = false) {k R n c : Nat} {g : Nat → Nat} (hN : Nt B h k R g n) (hr : Rm h) (hc : (c + 8) / 9 ≤ R) (hc2 : c < 100000)
    (hq : ∀ h' g', Fg B h h' (NS B k) 0 → Nt B h' k R g' ((c + 8) / 9) → (∀ i, i < (c + 8) / 9 → g' i = 0) → Q (.inl none) h') : zd_M l B m_Na_openDigits [.ref (zd_b0 B + k), .int (nI c)] h Q := by
  have r2 := hN.2.2.2.1
  refine zd_go (ok_Na_openDigits hG hl) [15] 50 ?_
  conv => whnf
  refine ⟨by decide, ?_⟩
  have e1 : (nI c + 9 - 1) / 9 = nI ((c + 8) / 9) := by
    rw [show nI c + 9 = nI (c + 8 + 1) by rw [show (9 : Int32) = nI 9 from rfl, nI_add], nI_pred]
    exact pk_div (d := 9) (by omega) (by omega) (by omega)
  rw [e1]
  conv => whnf
  refine ⟨⟨_, hN.1⟩, ⟨rfl, Nat.zero_le _, Nat.le_of_ble_eq_true rfl⟩, ?_⟩
  refine c_Na_claim hG hl hN (by omega) hr (fun h1 a1 a2 a3 => ?_) (fun h1 a1 a2 => by omega)
  conv => whnf
  refine ⟨?_, trivial⟩
  exact w_Na_open hG hl hq ((c + 8) / 9) 0 h1 g (by omega) a2 a3 (fun q hq2 => by omega)
theorem c_Na_setDigit (hG : zd_G B) (hl : l.stackTraces = false) {k R n p d : Nat} {g : Nat → Nat} (hN : Nt B h k R g n) (hp : p / 9 < n) (hd : d < 10) (hlt : g (p / 9) + d * 10 ^ (p % 9) < 1000000000)
    (hq : ∀ h', Fg B h h' (NS B k) 0 → Nt B h' k R (zu g (p / 9) (g (p / 9) + d * 10 ^ (p % 9))) n → Q (.inl none) h') : zd_M l B m_Na_setDigit [.ref (zd_b0 B + k), .int (nI p), .int (nI d)] h Q := by
  have r1 := hN.2.2.1
  have r2 := hN.2.2.2.1
  have e9 : nI p / 9 = nI (p / 9) := pk_div (d := 9) (by omega) (by omega) (by omega)
  have r9 : nI p - nI p / 9 * 9 = nI (p % 9) := pk_rem (d := 9) (by omega) (by omega) (by omega)
  refine zd_go (ok_Na_setDigit hG hl) [] 50 ?_
  conv => whnf
  refine ⟨fun z => absurd z (nI_pos (by omega)), fun z => ?_⟩
  conv => whnf
  refine ⟨by decide, ?_⟩
  conv => whnf
  refine ⟨_, hN.1, ?_⟩
  rw [e9]
  conv => whnf
  refine ⟨fun z => absurd z (nI_ge (by omega) (by omega)), fun z => ?_⟩
  conv => whnf
  refine ⟨_, hN.1, ?_⟩
  conv => whnf
  refine ⟨by decide, ?_⟩
  rw [e9]
  conv => whnf
  refine ⟨R, _, Or.inl hN.2.1, vp_in_nI (by omega) (by omega), ?_⟩
  rw [nI_clamp (by omega)]
  conv => whnf
  refine ⟨by decide, ?_⟩
  conv => whnf
  refine ⟨10, _, Or.inr hG.2.2.2.2.1, by rw [r9]; exact vp_in_nI (by omega) (by omega), ?_⟩
  rw [r9, nI_clamp (by omega), show zd_tens (p % 9) = nI (10 ^ (p % 9)) from rfl]
  conv => whnf
  refine ⟨R, _, hN.2.1, vp_in_nI (by omega) (by omega), ?_⟩
  rw [nI_clamp (by omega), pk_mul, nI_add]
  conv => whnf
  exact ⟨hq _ (Fg.set (Or.inr rfl)) (hN.put hlt), trivial⟩
end NF

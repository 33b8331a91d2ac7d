/-! Integer.compare, Math.max, Math.min, Math.abs; order of Naturals -/
/-- pure: the order of two rows of limbs -/
theorem zv_lt_len {g g2 : Nat → Nat} {n m : Nat} (h : ∀ i, i < n → g i < 1000000000) (hm : g2 m ≠ 0) (hn : n ≤ m) : zv 1000000000 g n < zv 1000000000 g2 (m + 1) := by
  have a := zv_lt (b := 1000000000) h
  have b : (1000000000 : Nat) ^ n ≤ 1000000000 ^ m := Nat.pow_le_pow_right (by decide) hn
  have c : 1 * 1000000000 ^ m ≤ g2 m * 1000000000 ^ m := Nat.mul_le_mul_right _ (by omega)
  show _ < zv 1000000000 g2 m + g2 m * 1000000000 ^ m
  omega
theorem zv_lt_at {g g2 : Nat → Nat} {i : Nat} (h : ∀ j, j < i → g j < 1000000000) (hi : g i < g2 i) : ∀ n, (∀ j, i < j → j < i + 1 + n → g j = g2 j) → zv 1000000000 g (i + 1 + n) < zv 1000000000 g2 (i + 1 + n) := by
  intro n
  induction n with
  | zero =>
    intro _
    have a := zv_lt (b := 1000000000) h
    have c : (g i + 1) * 1000000000 ^ i ≤ g2 i * 1000000000 ^ i := Nat.mul_le_mul_right _ hi
    show zv 1000000000 g i + g i * 1000000000 ^ i < zv 1000000000 g2 i + g2 i * 1000000000 ^ i
    rw [Nat.add_mul, Nat.one_mul] at c
    omega
  | succ n ih =>
    intro he
    have a := ih (fun j h1 h2 => he j h1 (by omega))
    have b := he (i + 1 + n) (by omega) (by omega)
    show zv 1000000000 g (i + 1 + n) + g (i + 1 + n) * 1000000000 ^ (i + 1 + n) < zv 1000000000 g2 (i + 1 + n) + g2 (i + 1 + n) * 1000000000 ^ (i + 1 + n)
    rw [b]
    omega
/-- -1, 0 or 1 -/
def cmpN (a b : Nat) : Int32 := if a < b then -1 else if a = b then 0 else 1
theorem cmpN_eq {a b : Nat} (h : a = b) : cmpN a b = 0 := by unfold cmpN; rw [if_neg (by omega), if_pos h]
theorem cmpN_lt {a b : Nat} (h : a < b) : cmpN a b = -1 := by unfold cmpN; rw [if_pos h]
theorem cmpN_gt {a b : Nat} (h : b < a) : cmpN a b = 1 := by unfold cmpN; rw [if_neg (by omega), if_neg (by omega)]
theorem cmpN_same {a b c d : Nat} (h1 : a < b ↔ c < d) (h2 : a = b ↔ c = d) : cmpN a b = cmpN c d := by
  unfold cmpN
  by_cases x : a < b
  · rw [if_pos x, if_pos (h1.mp x)]
  · rw [if_neg x, if_neg (fun q => x (h1.mpr q))]
    by_cases z : a = b
    · rw [if_pos z, if_pos (h2.mp z)]
    · rw [if_neg z, if_neg (fun q => z (h2.mpr q))]
section NC
variable {l : Launch} {B : zd_B} {h : zd_H} {Q : zd_O → zd_H → Prop}
theorem c_In_compare (hG : zd_G B) (hl : l.stackTraces = false) {a b : Int32} (hq : Q (.inl (some (.int (if a < b then -1 else if a = b then 0 else 1)))) h) : zd_M l B m_In_compare [.int a, .int b] h Q := by
  refine zd_go (ok_In_compare hG hl) [] 30 ?_
  conv => whnf
  refine ⟨fun z => ?_, fun z => ?_⟩
  · rw [if_neg (Int32.not_lt.mpr z)] at hq
    conv => whnf
    refine ⟨fun e => ?_, fun e => ?_⟩
    · rw [if_neg e] at hq
      conv => whnf
      exact ⟨rfl, hq, trivial⟩
    · rw [if_pos e] at hq
      conv => whnf
      exact ⟨rfl, hq, trivial⟩
  · rw [if_pos (Int32.not_le.mp z)] at hq
    conv => whnf
    exact ⟨rfl, hq, trivial⟩
theorem c_In_compareN (hG : zd_G B) (hl : l.stackTraces = false) {a b : Nat} (ha : a < 2 ^ 31) (hb : b < 2 ^ 31) (hq : Q (.inl (some (.int (cmpN a b)))) h) : zd_M l B m_In_compare [.int (nI a), .int (nI b)] h Q := by
  refine c_In_compare hG hl ?_
  unfold cmpN at hq
  simp only [nI_ltI ha hb, nI_eq ha hb]
  exact hq
theorem c_Ma_max (hG : zd_G B) (hl : l.stackTraces = false) {a b : Int32} (hq : Q (.inl (some (.int (if a < b then b else a)))) h) : zd_M l B m_Ma_max [.int a, .int b] h Q := by
  refine zd_go (ok_Ma_max hG hl) [] 30 ?_
  conv => whnf
  refine ⟨fun z => ?_, fun z => ?_⟩
  · rw [if_pos z] at hq
    conv => whnf
    exact ⟨rfl, hq, trivial⟩
  · rw [if_neg z] at hq
    conv => whnf
    exact ⟨rfl, hq, trivial⟩
theorem c_Ma_min (hG : zd_G B) (hl : l.stackTraces = false) {a b : Int32} (hq : Q (.inl (some (.int (if b < a then b else a)))) h) : zd_M l B m_Ma_min [.int a, .int b] h Q := by
  refine zd_go (ok_Ma_min hG hl) [] 30 ?_
  conv => whnf
  refine ⟨fun z => ?_, fun z => ?_⟩
  · rw [if_pos z] at hq
    conv => whnf
    exact ⟨rfl, hq, trivial⟩
  · rw [if_neg z] at hq
    conv => whnf
    exact ⟨rfl, hq, trivial⟩
theorem c_Ma_abs (hG : zd_G B) (hl : l.stackTraces = false) {a : Int32} (hq : Q (.inl (some (.int (if 0 ≤ a then a else -a)))) h) : zd_M l B m_Ma_abs [.int a] h Q := by
  refine zd_go (ok_Ma_abs hG hl) [] 30 ?_
  conv => whnf
  refine ⟨fun z => ?_, fun z => ?_⟩
  · rw [if_pos z] at hq
    conv => whnf
    exact ⟨rfl, hq, trivial⟩
  · rw [if_neg z] at hq
    conv => whnf
    exact ⟨rfl, hq, trivial⟩
/-- the loop of order: above i all limbs are alike -/
theorem w_Na_order (hG : zd_G B) (hl : l.stackTraces = false) {k R j R2 m : Nat} {g g2 : Nat → Nat} (hN : Nt B h k R g (m + 1)) (hJ : Nt B h j R2 g2 (m + 1)) (hq : Q (.inl (some (.int (cmpN (zv 1000000000 g (m + 1)) (zv 1000000000 g2 (m + 1)))))) h) : ∀ i, i ≤ m → (∀ q, i < q → q < m + 1 → g q = g2 q) → zd_W l B m_Na_order 30 [some (.ref (zd_b0 B + k)), some (.ref (zd_b0 B + j)), some (.int (nI i))] [] h Q := by
  have r1 := hN.2.2.1
  have r2 := hN.2.2.2.1
  have r3 := hJ.2.2.1
  have r4 := hJ.2.2.2.1
  have fin : ∀ i, i ≤ m → (∀ q, i < q → q < m + 1 → g q = g2 q) → (i = 0 ∨ g i ≠ g2 i) → cmpN (g i) (g2 i) = cmpN (zv 1000000000 g (m + 1)) (zv 1000000000 g2 (m + 1)) := by
    intro i hi he hx
    have e1 : m + 1 = i + 1 + (m - i) := by omega
    rcases Nat.lt_trichotomy (g i) (g2 i) with hlt | heq | hgt
    · rw [cmpN_lt hlt, cmpN_lt]
      rw [e1]
      exact zv_lt_at (fun q _ => hN.2.2.2.2 q) hlt (m - i) (fun q a b => he q a (by omega))
    · have hi0 : i = 0 := by rcases hx with hx | hx; exact hx; exact absurd heq hx
      rw [cmpN_eq heq, cmpN_eq]
      refine zv_congr (fun q hqm => ?_)
      by_cases hq0 : q = 0
      · rw [hq0, ← hi0]; exact heq
      · exact he q (by omega) hqm
    · rw [cmpN_gt hgt, cmpN_gt]
      rw [e1]
      exact zv_lt_at (fun q _ => hJ.2.2.2.2 q) hgt (m - i) (fun q a b => (he q a (by omega)).symm)
  have last : ∀ i, i ≤ m → (∀ q, i < q → q < m + 1 → g q = g2 q) → (i = 0 ∨ g i ≠ g2 i) → zd_W l B m_Na_order 55 [some (.ref (zd_b0 B + k)), some (.ref (zd_b0 B + j)), some (.int (nI i))] [] h Q := by
    intro i hi he hx
    refine zd_go (ok_Na_order hG hl) [] 30 ?_
    conv => whnf
    refine ⟨fun z => ?_, fun z => absurd (nI_pos' (by omega)) z⟩
    conv => whnf
    refine ⟨_, hN.1, ?_⟩
    conv => whnf
    refine ⟨R, _, Or.inl hN.2.1, vp_in_nI (by omega) (by omega), ?_⟩
    rw [nI_clamp (by omega)]
    conv => whnf
    refine ⟨_, hJ.1, ?_⟩
    conv => whnf
    refine ⟨R2, _, Or.inl hJ.2.1, vp_in_nI (by omega) (by omega), ?_⟩
    rw [nI_clamp (by omega)]
    conv => whnf
    refine ⟨⟨rfl, Nat.zero_le _, Nat.le_of_ble_eq_true rfl⟩, ?_⟩
    refine c_In_compareN hG hl (by have := hN.2.2.2.2 i; omega) (by have := hJ.2.2.2.2 i; omega) ?_
    conv => whnf
    refine ⟨rfl, ?_, trivial⟩
    rw [fin i hi he hx]
    exact hq
  intro i
  induction i with
  | zero =>
    intro hi he
    refine zd_go (ok_Na_order hG hl) [55] 30 ?_
    conv => whnf
    refine ⟨fun z => ?_, fun z => absurd (by rw [nI_0]; exact Int32.le_refl 0) z⟩
    conv => whnf
    exact ⟨last 0 hi he (Or.inl rfl), trivial⟩
  | succ i ih =>
    intro hi he
    refine zd_go (ok_Na_order hG hl) [30, 55] 30 ?_
    conv => whnf
    refine ⟨fun z => absurd z (nI_nle (by omega) (by omega)), fun z => ?_⟩
    conv => whnf
    refine ⟨_, hN.1, ?_⟩
    conv => whnf
    refine ⟨R, _, Or.inl hN.2.1, vp_in_nI (by omega) (by omega), ?_⟩
    rw [nI_clamp (by omega)]
    conv => whnf
    refine ⟨_, hJ.1, ?_⟩
    conv => whnf
    refine ⟨R2, _, Or.inl hJ.2.1, vp_in_nI (by omega) (by omega), ?_⟩
    rw [nI_clamp (by omega)]
    conv => whnf
    have b1 := hN.2.2.2.2 (i + 1)
    have b2 := hJ.2.2.2.2 (i + 1)
    refine ⟨fun z => ?_, fun z => ?_⟩
    · have z' : g (i + 1) ≠ g2 (i + 1) := fun e => z (by show nI (g (i + 1)) = nI (g2 (i + 1)); rw [e])
      conv => whnf
      exact ⟨last (i + 1) hi he (Or.inr z'), trivial⟩
    · have z' : g (i + 1) = g2 (i + 1) := (nI_eq (by omega) (by omega)).mp z
      conv => whnf
      refine ⟨?_, trivial⟩
      show zd_W l B m_Na_order 30 [some (.ref (zd_b0 B + k)), some (.ref (zd_b0 B + j)), some (.int (nI (i + 1) + (-1)))] [] h Q
      rw [pk_m1]
      exact ih (by omega) (fun q a b => by
        by_cases e : q = i + 1
        · rw [e]; exact z'
        · exact he q (by omega) b)
theorem c_Na_order (hG : zd_G B) (hl : l.stackTraces = false) {k R n j R2 n2 : Nat} {g g2 : Nat → Nat} (hN : Nt B h k R g n) (hJ : Nt B h j R2 g2 n2) (hz : n = 0 ∨ g (n - 1) ≠ 0) (hz2 : n2 = 0 ∨ g2 (n2 - 1) ≠ 0) (hq : Q (.inl (some (.int (cmpN (zv 1000000000 g n) (zv 1000000000 g2 n2))))) h) : zd_M l B m_Na_order [.ref (zd_b0 B + k), .ref (zd_b0 B + j)] h Q := by
  have r1 := hN.2.2.1
  have r2 := hN.2.2.2.1
  have r3 := hJ.2.2.1
  have r4 := hJ.2.2.2.1
  refine zd_go (ok_Na_order hG hl) [30] 30 ?_
  conv => whnf
  refine ⟨_, hN.1, ?_⟩
  conv => whnf
  refine ⟨_, hJ.1, ?_⟩
  conv => whnf
  refine ⟨fun z => ?_, fun z => ?_⟩
  · have e : n = n2 := (nI_eq (by omega) (by omega)).mp z
    subst e
    conv => whnf
    refine ⟨_, hN.1, ?_⟩
    conv => whnf
    refine ⟨?_, trivial⟩
    show zd_W l B m_Na_order 30 [some (.ref (zd_b0 B + k)), some (.ref (zd_b0 B + j)), some (.int (nI n - 1))] [] h Q
    cases n with
    | zero =>
      refine zd_go (ok_Na_order hG hl) [] 30 ?_
      conv => whnf
      refine ⟨fun z => ?_, fun z => absurd (by decide) z⟩
      conv => whnf
      refine ⟨fun z => absurd z (by decide), fun z => ?_⟩
      conv => whnf
      refine ⟨rfl, ?_, trivial⟩
      rw [cmpN_eq (show zv 1000000000 g 0 = zv 1000000000 g2 0 from rfl)] at hq
      exact hq
    | succ m =>
      rw [nI_pred]
      exact w_Na_order hG hl hN hJ hq m (Nat.le_refl _) (fun q a b => by omega)
  · have e : n ≠ n2 := fun e => z (by rw [e])
    conv => whnf
    refine ⟨_, hN.1, ?_⟩
    conv => whnf
    refine ⟨_, hJ.1, ?_⟩
    conv => whnf
    refine ⟨⟨rfl, Nat.zero_le _, Nat.le_of_ble_eq_true rfl⟩, ?_⟩
    refine c_In_compareN hG hl (by omega) (by omega) ?_
    conv => whnf
    refine ⟨rfl, ?_, trivial⟩
    rcases Nat.lt_or_gt_of_ne e with h1 | h1
    · obtain ⟨m, rfl⟩ : ∃ m, n2 = m + 1 := ⟨n2 - 1, by omega⟩
      have hm : g2 m ≠ 0 := by rcases hz2 with q | q; omega; exact q
      rw [cmpN_lt (zv_lt_len (fun i _ => hN.2.2.2.2 i) hm (by omega))] at hq
      rw [cmpN_lt h1]
      exact hq
    · obtain ⟨m, rfl⟩ : ∃ m, n = m + 1 := ⟨n - 1, by omega⟩
      have hm : g m ≠ 0 := by rcases hz with q | q; omega; exact q
      rw [cmpN_gt (zv_lt_len (fun i _ => hJ.2.2.2.2 i) hm (by omega))] at hq
      rw [cmpN_gt h1]
      exact hq
end NC

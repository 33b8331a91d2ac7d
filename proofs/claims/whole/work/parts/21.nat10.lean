/-! Natural: moveUp, move -/
/-- the limbs of a number times 10^r (low = 10^r, high = 10^(9-r)) -/
def zup (g : Nat → Nat) (high low q : Nat) : Nat := g q % high * low + (if q = 0 then 0 else g (q - 1) / high)
theorem zup_lt {g : Nat → Nat} {high low q : Nat} (hb : low * high = 1000000000) (hh : 0 < high) (hg : ∀ i, g i < 1000000000) : zup g high low q < 1000000000 := by
  unfold zup
  by_cases e : q = 0
  · have := limb_down (x := 0) (a := g q) (low := high) (high := low) (by rw [Nat.mul_comm]; exact hb) hh (by omega)
    rw [Nat.zero_div] at this
    rw [if_pos e]
    omega
  · have := limb_down (x := g (q - 1)) (a := g q) (low := high) (high := low) (by rw [Nat.mul_comm]; exact hb) hh (hg _)
    rw [if_neg e]
    omega
theorem zup_sum {g : Nat → Nat} {high low : Nat} (hb : low * high = 1000000000) (m : Nat) : zv 1000000000 (zup g high low) (m + 1) + g m / high * 1000000000 ^ (m + 1) = zv 1000000000 g (m + 1) * low := by
  induction m with
  | zero =>
    have e := Nat.div_add_mod (g 0) high
    show 0 + zup g high low 0 * 1000000000 ^ 0 + g 0 / high * 1000000000 ^ 1 = (0 + g 0 * 1000000000 ^ 0) * low
    unfold zup
    rw [if_pos rfl, ← hb]
    generalize g 0 / high = a at *
    generalize g 0 % high = b at *
    rw [← e, Nat.pow_zero, Nat.pow_one, Nat.mul_one, Nat.zero_add, Nat.zero_add, Nat.add_zero, Nat.mul_one, Nat.add_mul, Nat.add_comm]
    congr 1
    rw [Nat.mul_comm high, Nat.mul_assoc, Nat.mul_comm high]
  | succ m ih =>
    have e := Nat.div_add_mod (g (m + 1)) high
    rw [zv_succ, zv_succ (g := g), Nat.add_mul, ← ih]
    have e1 : zup g high low (m + 1) = g (m + 1) % high * low + g m / high := by unfold zup; rw [if_neg (by omega)]; rfl
    rw [e1]
    generalize zv 1000000000 (zup g high low) (m + 1) = Z at *
    rw [Nat.pow_succ 1000000000 (m + 1)]
    generalize 1000000000 ^ (m + 1) = P at *
    generalize g m / high = c at *
    have e2 : g (m + 1) * P * low = g (m + 1) / high * (P * 1000000000) + g (m + 1) % high * low * P := by
      generalize g (m + 1) / high = a at *
      generalize g (m + 1) % high = b at *
      rw [← e, ← hb]
      simp only [Nat.add_mul, Nat.mul_add, Nat.mul_assoc, Nat.mul_comm, Nat.mul_left_comm]
    rw [e2, Nat.add_mul]
    omega
theorem zv_shift (b : Nat) {g : Nat → Nat} (w n : Nat) (h : ∀ i, i < w → g i = 0) : zv b g (w + n) = b ^ w * zv b (fun i => g (w + i)) n := by
  rw [zv_split, zv_zero h, Nat.zero_add]
theorem dg_limbs {g : Nat → Nat} {n : Nat} (hg : ∀ i, g i < 1000000000) (hn : 0 < n) (hz : n = 0 ∨ g (n - 1) ≠ 0) : 9 * (n - 1) < dg (zv 1000000000 g n) ∧ dg (zv 1000000000 g n) ≤ 9 * n := by
  have a := dg_lt (zv 1000000000 g n)
  have b := dg_ge (zv 1000000000 g n) (Nat.pos_of_ne_zero (zv_pos hn hz))
  have c := zv_lt10 (g := g) (n := n) hg
  have d : 10 ^ (9 * (n - 1)) ≤ zv 1000000000 g n := by
    obtain ⟨m, rfl⟩ : ∃ m, n = m + 1 := ⟨n - 1, by omega⟩
    rw [zv_succ, p9q]
    have h1 : g m ≠ 0 := by rcases hz with hz | hz; omega; exact hz
    have : 1 * 10 ^ (9 * m) ≤ g m * 10 ^ (9 * m) := Nat.mul_le_mul_right _ (by omega)
    rw [Nat.one_mul] at this
    show 10 ^ (9 * m) ≤ _
    omega
  have e1 := pow_lt_cancel (Nat.lt_of_le_of_lt d a)
  have e2 := pow_lt_cancel (Nat.lt_of_le_of_lt b c)
  have e3 := dg_pos (zv 1000000000 g n)
  omega
/-- the value, and the top limb, of the limbs that moveUp leaves -/
theorem zup_end {g g' : Nat → Nat} {n w r T : Nat} (hg : ∀ i, g i < 1000000000) (hn : 0 < n) (hz : n = 0 ∨ g (n - 1) ≠ 0) (hr : r < 9) (hT : T = (dg (zv 1000000000 g n) + (9 * w + r) + 8) / 9)
    (h0 : ∀ q, q < w → g' q = 0) (h1 : ∀ q, w ≤ q → q < T → g' q = zup (zm g n) (10 ^ (9 - r)) (10 ^ r) (q - w)) : zv 1000000000 g' T = zv 1000000000 g n * 10 ^ (9 * w + r) ∧ (T = 0 ∨ g' (T - 1) ≠ 0) := by
  obtain ⟨d1, d2⟩ := dg_limbs hg hn hz
  have hb : 10 ^ r * 10 ^ (9 - r) = 1000000000 := pow_hl (by omega)
  obtain ⟨m, hm⟩ : ∃ m, T = w + (m + 1) := ⟨T - w - 1, by omega⟩
  have hV := dg_lt (zv 1000000000 g n)
  have hV1 := dg_ge (zv 1000000000 g n) (Nat.pos_of_ne_zero (zv_pos hn hz))
  have ez : zv 1000000000 (zm g n) (m + 1) = zv 1000000000 g n := by
    rw [show m + 1 = n + (m + 1 - n) by omega]
    exact zv_zm _ _ _ _
  have es := zup_sum (g := zm g n) hb m
  rw [ez] at es
  have hlt : zv 1000000000 g n * 10 ^ r < 1000000000 ^ (m + 1) := by
    have h2 : zv 1000000000 g n * 10 ^ r < 10 ^ dg (zv 1000000000 g n) * 10 ^ r := Nat.mul_lt_mul_of_pos_right hV (Nat.pow_pos (by decide))
    rw [← Nat.pow_add] at h2
    rw [p9q]
    exact Nat.lt_of_lt_of_le h2 (Nat.pow_le_pow_right (by decide) (by omega))
  have hc : zm g n m / 10 ^ (9 - r) = 0 := by
    rcases Nat.eq_zero_or_pos (zm g n m / 10 ^ (9 - r)) with e | e
    · exact e
    · have : 1 * 1000000000 ^ (m + 1) ≤ zm g n m / 10 ^ (9 - r) * 1000000000 ^ (m + 1) := Nat.mul_le_mul_right _ e
      omega
  rw [hc, Nat.zero_mul, Nat.add_zero] at es
  have hval : zv 1000000000 g' T = zv 1000000000 g n * 10 ^ (9 * w + r) := by
    rw [hm, zv_shift _ _ _ h0, zv_congr (g' := zup (zm g n) (10 ^ (9 - r)) (10 ^ r)) (fun i hi => by rw [h1 (w + i) (by omega) (by omega)]; congr 1; omega), es, p9q, Nat.pow_add, Nat.mul_comm, Nat.mul_assoc, Nat.mul_comm (10 ^ r)]
  refine ⟨hval, Or.inr (fun e => ?_)⟩
  have h3 : zv 1000000000 g' (w + m) < 10 ^ (9 * (w + m)) := by
    have := zv_lt (b := 1000000000) (g := g') (n := w + m) (fun i hi => by
      by_cases hi2 : i < w
      · rw [h0 i hi2]; decide
      · rw [h1 i (by omega) (by omega)]
        exact zup_lt hb (Nat.pow_pos (by decide)) (fun j => zm_lt (hg j)))
    rwa [p9q] at this
  rw [hm, show w + (m + 1) - 1 = w + m by omega] at e
  rw [hm, show w + (m + 1) = w + m + 1 by omega, zv_succ, e, Nat.zero_mul, Nat.add_zero] at hval
  have h4 : 10 ^ (dg (zv 1000000000 g n) - 1) * 10 ^ (9 * w + r) ≤ zv 1000000000 g n * 10 ^ (9 * w + r) := Nat.mul_le_mul_right _ hV1
  rw [← Nat.pow_add] at h4
  have h5 : (10 : Nat) ^ (9 * (w + m)) ≤ 10 ^ (dg (zv 1000000000 g n) - 1 + (9 * w + r)) := Nat.pow_le_pow_right (by decide) (by omega)
  omega
theorem hi_low {r : Nat} (h : r < 9) : (1000000000 : Int32) / nI (10 ^ r) = nI (10 ^ (9 - r)) := by
  rw [show (1000000000 : Int32) = nI 1000000000 from rfl, pk_div (by omega) (Nat.pow_pos (by decide)) (zd_tens_lt (by omega)), ← pow_hl (r := r) (by omega), Nat.mul_div_cancel_left _ (Nat.pow_pos (by decide))]
section NI
variable {l : Launch} {B : zd_B} {h : zd_H} {Q : zd_O → zd_H → Prop}
theorem w_Na_up134 (hG : zd_G B) (hl : l.stackTraces = false) {k R T w : Nat} {p a3 a4 a5 : Int32} {g0 : Nat → Nat} (hwT : w ≤ T)
    (hq : ∀ h' g', Fg B h h' (NS B k) 0 → Nt B h' k R g' T → (∀ q, q < w → g' q = 0) → (∀ q, w ≤ q → g' q = g0 q) → Q (.inl none) h') :
    ∀ (d i : Nat) (h1 : zd_H) (g : Nat → Nat) (w7 w8 : Option Value), i + d = w → Fg B h h1 (NS B k) 0 → Nt B h1 k R g T → (∀ q, q < i → g q = 0) → (∀ q, w ≤ q → g q = g0 q) →
      zd_W l B m_Na_moveUp 134 [some (.ref (zd_b0 B + k)), some (.int p), some (.int (nI w)), some (.int a3), some (.int a4), some (.int a5), some (.int (nI i)), w7, w8] [] h1 Q := by
  intro d
  induction d with
  | zero =>
    intro i h1 g w7 w8 hd f hN ha hb
    have hi : i = w := by omega
    subst hi
    refine zd_go (ok_Na_moveUp hG hl) [] 60 ?_
    conv => whnf
    refine ⟨fun z => ?_, fun z => absurd (Int32.le_refl _) z⟩
    conv => whnf
    exact ⟨hq h1 g f hN ha hb, trivial⟩
  | succ d ih =>
    intro i h1 g w7 w8 hd f hN ha hb
    have r1 := hN.2.2.1
    have r2 := hN.2.2.2.1
    refine zd_go (ok_Na_moveUp hG hl) [134] 60 ?_
    conv => whnf
    refine ⟨fun z => absurd z (nI_ge (by omega) (by omega)), fun z => ?_⟩
    conv => whnf
    refine ⟨_, hN.1, ?_⟩
    conv => whnf
    refine ⟨_, _, hN.2.1, vp_in_nI (by omega) (by omega), ?_⟩
    rw [nI_clamp (by omega)]
    conv => whnf
    refine ⟨?_, trivial⟩
    have := ih (i + 1) _ (zu g i 0) w7 w8 (by omega) (f.set2 (Or.inr rfl)) (hN.put (i := i) (v := 0) (by omega)) (fun q hq2 => by
      by_cases e : q = i
      · rw [e, zu_s]
      · rw [zu_n e]; exact ha q (by omega)) (fun q hq2 => by rw [zu_n (by omega)]; exact hb q hq2)
    rw [← nI_1 i] at this
    exact this
theorem w_Na_up52 (hG : zd_G B) (hl : l.stackTraces = false) {k R n T w low high : Nat} {p : Int32} {g0 : Nat → Nat} (hb : low * high = 1000000000) (hl0 : 0 < low) (hh0 : 0 < high) (hg0 : ∀ i, g0 i < 1000000000) (hT : T ≤ w + n + 1) (hn1 : n < 1000) (hw1 : w < 1000)
    (hq : ∀ h' g', Fg B h h' (NS B k) 0 → Nt B h' k R g' T → (∀ q, q < w → g' q = 0) → (∀ q, w ≤ q → q < T → g' q = zup (zm g0 n) high low (q - w)) → Q (.inl none) h') :
    ∀ (t : Nat) (h1 : zd_H) (g : Nat → Nat) (w7 w8 : Option Value), w + t ≤ T → w ≤ T → Fg B h h1 (NS B k) 0 → Nt B h1 k R g T → (∀ q, q < w + t → g q = g0 q) → (∀ q, w + t ≤ q → q < T → g q = zup (zm g0 n) high low (q - w)) →
      zd_W l B m_Na_moveUp 52 [some (.ref (zd_b0 B + k)), some (.int p), some (.int (nI w)), some (.int (nI low)), some (.int (nI high)), some (.int (nI n)), some (.int (nI (w + t) - 1)), w7, w8] [] h1 Q := by
  have hl1 : low ≤ 1000000000 := by rw [← hb]; exact Nat.le_mul_of_pos_right _ hh0
  have hh1 : high ≤ 1000000000 := by rw [← hb]; exact Nat.le_mul_of_pos_left _ hl0
  intro t
  induction t with
  | zero =>
    intro h1 g w7 w8 ht hwT f hN ha hc
    have lt : nI (w + 0) - 1 < nI w := by
      rw [Nat.add_zero, iI_nI, show (1 : Int32) = iI 1 from rfl, iI_sub, iI_lt ⟨by omega, by omega⟩ ⟨by omega, by omega⟩]
      omega
    refine zd_go (ok_Na_moveUp hG hl) [134] 60 ?_
    conv => whnf
    refine ⟨fun z => ?_, fun z => absurd lt z⟩
    conv => whnf
    refine ⟨?_, trivial⟩
    exact w_Na_up134 (h := h) hG hl hwT (fun h' g' b1 b2 b3 b4 => hq h' g' b1 b2 b3 (fun q q1 q2 => by rw [b4 q q1]; exact hc q (by omega) q2)) w 0 h1 g w7 w8 (by omega) f hN (fun q hq2 => by omega) (fun q _ => rfl)
  | succ t ih =>
    intro h1 g w7 w8 ht hwT f hN ha hc
    have r1 := hN.2.2.1
    have r2 := hN.2.2.2.1
    have hgm : ∀ i, zm g0 n i < 1000000000 := fun i => zm_lt (hg0 i)
    have hzl := zup_lt (g := zm g0 n) (q := t) hb hh0 hgm
    have b103 : ∀ w8', zd_W l B m_Na_moveUp 103 [some (.ref (zd_b0 B + k)), some (.int p), some (.int (nI w)), some (.int (nI low)), some (.int (nI high)), some (.int (nI n)), some (.int (nI (w + t))), some (.int (nI (zm g0 n t))), w8'] [.int (nI (if t = 0 then 0 else zm g0 n (t - 1)))] h1 Q := by
      intro w8'
      have hbe : (if t = 0 then 0 else zm g0 n (t - 1)) < 1000000000 := by split; decide; exact hgm _
      have hhe := hgm t
      have hmod : zm g0 n t % high < high := Nat.mod_lt _ hh0
      refine zd_go (ok_Na_moveUp hG hl) [52] 60 ?_
      conv => whnf
      refine ⟨_, hN.1, ?_⟩
      conv => whnf
      refine ⟨nI_ne0 hh0 (by omega), ?_⟩
      conv => whnf
      refine ⟨nI_ne0 hh0 (by omega), ?_⟩
      conv => whnf
      refine ⟨_, _, hN.2.1, vp_in_nI (by omega) (by omega), ?_⟩
      rw [nI_clamp (by omega), pk_rem (by omega) hh0 (by omega), pk_div (by omega) hh0 (by omega), pk_mul, nI_add]
      have ez : zm g0 n t % high * low + (if t = 0 then 0 else zm g0 n (t - 1)) / high = zup (zm g0 n) high low t := by
        unfold zup
        by_cases e : t = 0
        · rw [if_pos e, if_pos e, Nat.zero_div]
        · rw [if_neg e, if_neg e]
      rw [ez]
      conv => whnf
      refine ⟨?_, trivial⟩
      show zd_W l B m_Na_moveUp 52 [some (.ref (zd_b0 B + k)), some (.int p), some (.int (nI w)), some (.int (nI low)), some (.int (nI high)), some (.int (nI n)), some (.int (nI (w + t) + (-1))), some (.int (nI (zm g0 n t))), some (.int (nI (if t = 0 then 0 else zm g0 n (t - 1))))] [] _ Q
      rw [show nI (w + t) + (-1) = nI (w + t) - 1 from (Int32.sub_eq_add_neg _ _).symm]
      refine ih _ (zu g (w + t) (zup (zm g0 n) high low t)) _ _ (by omega) hwT (f.set2 (Or.inr rfl)) (hN.put hzl) (fun q hq2 => by rw [zu_n (by omega)]; exact ha q (by omega)) (fun q q1 q2 => ?_)
      by_cases e : q = w + t
      · rw [e, zu_s, show w + t - w = t by omega]
      · rw [zu_n e]; exact hc q (by omega) q2
    have b80 : ∀ w7', zd_W l B m_Na_moveUp 80 [some (.ref (zd_b0 B + k)), some (.int p), some (.int (nI w)), some (.int (nI low)), some (.int (nI high)), some (.int (nI n)), some (.int (nI (w + t))), w7', w8] [.int (nI (zm g0 n t))] h1 Q := by
      intro w7'
      refine zd_go (ok_Na_moveUp hG hl) [103] 60 ?_
      conv => whnf
      refine ⟨fun z => ?_, fun z => ?_⟩
      · conv => whnf
        have z' : w + t ≤ w := (nI_leI (by omega) (by omega)).mp z
        have := b103 w8
        rw [if_pos (show t = 0 by omega)] at this
        exact ⟨this, trivial⟩
      · have z' : ¬ w + t ≤ w := fun q => z ((nI_leI (by omega) (by omega)).mpr q)
        conv => whnf
        refine ⟨_, hN.1, ?_⟩
        conv => whnf
        have ei : nI (w + t) - nI w - 1 = nI (t - 1) := by rw [pk_sub (by omega), show w + t - w = (t - 1) + 1 by omega, nI_pred]
        refine ⟨_, _, Or.inl hN.2.1, by rw [ei]; exact vp_in_nI (by omega) (by omega), ?_⟩
        rw [ei, nI_clamp (by omega), ha (t - 1) (by omega)]
        have := b103 w8
        rw [if_neg (show t ≠ 0 by omega), zm_in (j := t - 1) (by omega)] at this
        conv => whnf
        exact ⟨this, trivial⟩
    rw [show w + (t + 1) = w + t + 1 by omega, nI_pred]
    have ei : nI (w + t) - nI w = nI t := by rw [pk_sub (by omega), show w + t - w = t by omega]
    refine zd_go (ok_Na_moveUp hG hl) [80] 60 ?_
    conv => whnf
    refine ⟨fun z => absurd z (nI_nlt (by omega) (by omega)), fun z => ?_⟩
    conv => whnf
    refine ⟨fun z => ?_, fun z => ?_⟩
    · rw [ei] at z
      have z' : n ≤ t := (nI_leI (by omega) (by omega)).mp z
      have := b80 w7
      rw [zm_out z'] at this
      conv => whnf
      exact ⟨this, trivial⟩
    · rw [ei] at z
      have z' : ¬ n ≤ t := fun q => z ((nI_leI (by omega) (by omega)).mpr q)
      conv => whnf
      refine ⟨_, hN.1, ?_⟩
      conv => whnf
      refine ⟨_, _, Or.inl hN.2.1, by rw [ei]; exact vp_in_nI (by omega) (by omega), ?_⟩
      rw [ei, nI_clamp (by omega), ha t (by omega)]
      have := b80 w7
      rw [zm_in (by omega)] at this
      conv => whnf
      exact ⟨this, trivial⟩
theorem c_Na_moveUp (hG : zd_G B) (hl : l.stackTraces = false) {k R n p : Nat} {g : Nat → Nat} (hN : Nt B h k R g n) (hn : 0 < n) (hz : n = 0 ∨ g (n - 1) ≠ 0) (hp : p < 100000) (hr : Rm h)
    (hq : ∀ h' g' n', (dg (zv 1000000000 g n) + p + 8) / 9 ≤ R → Fg B h h' (NS B k) 0 → Nt B h' k R g' n' → (n' = 0 ∨ g' (n' - 1) ≠ 0) → zv 1000000000 g' n' = zv 1000000000 g n * 10 ^ p → Q (.inl none) h')
    (hth : ∀ h', R < (dg (zv 1000000000 g n) + p + 8) / 9 → Fx B h h' E0 11 → Q (.inr (zd_b0 B + h.1, 11)) h') :
    zd_M l B m_Na_moveUp [.ref (zd_b0 B + k), .int (nI p)] h Q := by
  have r1 := hN.2.2.1
  have r2 := hN.2.2.2.1
  have e9 : nI p / 9 = nI (p / 9) := pk_div (d := 9) (by omega) (by omega) (by omega)
  have r9 : nI p - nI p / 9 * 9 = nI (p % 9) := pk_rem (d := 9) (by omega) (by omega) (by omega)
  have ht := zd_tens_lt (i := p % 9) (by omega)
  have hp0 : 0 < 10 ^ (p % 9) := Nat.pow_pos (by decide)
  obtain ⟨d1, d2⟩ := dg_limbs hN.2.2.2.2 hn hz
  refine zd_go (ok_Na_moveUp hG hl) [52] 60 ?_
  conv => whnf
  refine ⟨by decide, ?_⟩
  conv => whnf
  refine ⟨by decide, ?_⟩
  conv => whnf
  refine ⟨10, _, Or.inr hG.2.2.2.2.1, by rw [r9]; exact vp_in_nI (by omega) (by omega), ?_⟩
  rw [r9, nI_clamp (by omega), show zd_tens (p % 9) = nI (10 ^ (p % 9)) from rfl]
  conv => whnf
  refine ⟨nI_ne0 hp0 ht, ?_⟩
  conv => whnf
  refine ⟨_, hN.1, ?_⟩
  conv => whnf
  refine ⟨⟨_, hN.1⟩, ⟨rfl, Nat.le_of_ble_eq_true rfl, Nat.le_of_ble_eq_true rfl⟩, ?_⟩
  refine c_Na_digits hG hl hN hz ?_
  conv => whnf
  refine ⟨by decide, ?_⟩
  conv => whnf
  refine ⟨⟨_, hN.1⟩, ⟨rfl, Nat.le_of_ble_eq_true rfl, Nat.le_of_ble_eq_true rfl⟩, ?_⟩
  rw [hi_low (by omega), e9, nI_add, show (9 : Int32) = nI 9 from rfl, nI_add, show (1 : Int32) = nI 1 from rfl, pk_sub (by omega), pk_div (by omega) (by omega) (by omega), show dg (zv 1000000000 g n) + p + 9 - 1 = dg (zv 1000000000 g n) + p + 8 by omega]
  obtain ⟨T, hT⟩ : ∃ T, T = (dg (zv 1000000000 g n) + p + 8) / 9 := ⟨_, rfl⟩
  rw [← hT]
  rw [← hT] at hth hq
  refine c_Na_claim hG hl hN (by omega) hr (fun h1 a1 a2 a3 => ?_) (fun h1 a1 a2 => hth h1 a1 a2)
  conv => whnf
  refine ⟨_, a3.1, ?_⟩
  conv => whnf
  refine ⟨?_, trivial⟩
  have := w_Na_up52 (h := h) (p := nI p) hG hl (k := k) (R := R) (n := n) (T := T) (w := p / 9) (low := 10 ^ (p % 9)) (high := 10 ^ (9 - p % 9)) (g0 := g) (Q := Q) (pow_hl (by omega)) hp0 (Nat.pow_pos (by decide)) hN.2.2.2.2 (by omega) (by omega) (by have := a3.2.2.1; omega) (fun h' g' b1 b2 b3 b4 => by
      obtain ⟨v1, v2⟩ := zup_end (g := g) (g' := g') (n := n) (w := p / 9) (r := p % 9) (T := T) hN.2.2.2.2 hn hz (by omega) (by rw [hT]; congr 2; omega) b3 b4
      rw [show 9 * (p / 9) + p % 9 = p by omega] at v1
      exact hq h' g' T a1 b1 b2 v2 v1) (T - p / 9) h1 g none none (by omega) (by omega) a2 a3 (fun q _ => rfl) (fun q q1 q2 => by omega)
  rw [show p / 9 + (T - p / 9) = T by omega] at this
  exact this
/-- places as an integer; what is lost is told -/
theorem c_Na_move (hG : zd_G B) (hl : l.stackTraces = false) {k R n : Nat} {p : Int} {g : Nat → Nat} (hN : Nt B h k R g n) (hz : n = 0 ∨ g (n - 1) ≠ 0) (hp : -100000 < p ∧ p < 100000) (hr : Rm h)
    (hq : ∀ h' g' n' lost, (n = 0 ∨ p ≤ 0 ∨ (dg (zv 1000000000 g n) + p.toNat + 8) / 9 ≤ R) → Fg B h h' (NS B k) 0 → Nt B h' k R g' n' → (n' = 0 ∨ g' (n' - 1) ≠ 0) → zv 1000000000 g' n' = zv 1000000000 g n * 10 ^ p.toNat / 10 ^ (-p).toNat → lost ≤ 1 → (lost = 1 ↔ zv 1000000000 g n % 10 ^ (-p).toNat ≠ 0) → Q (.inl (some (.int (nI lost)))) h')
    (hth : ∀ h', 0 < n → 0 < p → R < (dg (zv 1000000000 g n) + p.toNat + 8) / 9 → Fx B h h' E0 11 → Q (.inr (zd_b0 B + h.1, 11)) h') :
    zd_M l B m_Na_move [.ref (zd_b0 B + k), .int (iI p)] h Q := by
  have r1 := hN.2.2.1
  have r2 := hN.2.2.2.1
  have hR : iR p := ⟨by omega, by omega⟩
  have h0R : iR 0 := ⟨by omega, by omega⟩
  refine zd_go (ok_Na_move hG hl) [] 60 ?_
  conv => whnf
  refine ⟨fun z => ?_, fun z => ?_⟩
  · have z' : p = 0 := (iI_eq hR h0R).mp z
    subst z'
    conv => whnf
    refine ⟨rfl, ?_, trivial⟩
    exact hq h g n 0 (Or.inr (Or.inl (by omega))) Fg.rf hN hz (by simp) (by omega) ⟨fun q => by omega, fun q => absurd (by simp [Nat.mod_one]) q⟩
  · have z' : p ≠ 0 := fun q => z ((iI_eq hR h0R).mpr q)
    conv => whnf
    refine ⟨_, hN.1, ?_⟩
    conv => whnf
    refine ⟨fun z => ?_, fun z => ?_⟩
    · have zn : 0 < n := by
        rcases Nat.eq_zero_or_pos n with e | e
        · exact absurd (by rw [e]; exact nI_0) z
        · exact e
      conv => whnf
      refine ⟨fun z => ?_, fun z => ?_⟩
      · have z2 : 0 ≤ p := (iI_le h0R hR).mp z
        conv => whnf
        refine ⟨⟨_, hN.1⟩, ⟨rfl, Nat.le_of_ble_eq_true rfl, Nat.le_of_ble_eq_true rfl⟩, ?_⟩
        obtain ⟨q, rfl⟩ : ∃ q : Nat, p = q := ⟨p.toNat, by omega⟩
        rw [← iI_nI]
        refine c_Na_moveUp hG hl hN zn hz (by omega) hr (fun h1 g1 n1 a1 a2 a3 a4 a5 => ?_) (fun h1 a1 a2 => hth h1 zn (by omega) a1 a2)
        conv => whnf
        refine ⟨rfl, ?_, trivial⟩
        have e1 : (-(q : Int)).toNat = 0 := by omega
        exact hq h1 g1 n1 0 (Or.inr (Or.inr a1)) a2 a3 a4 (by rw [e1, a5]; simp) (by omega) ⟨fun x => by omega, fun x => absurd (by rw [e1]; simp [Nat.mod_one]) x⟩
      · have z2 : ¬ 0 ≤ p := fun q => z ((iI_le h0R hR).mpr q)
        conv => whnf
        refine ⟨⟨_, hN.1⟩, ⟨rfl, Nat.le_of_ble_eq_true rfl, Nat.le_of_ble_eq_true rfl⟩, ?_⟩
        obtain ⟨q, hq1⟩ : ∃ q : Nat, p = -(q : Int) := ⟨(-p).toNat, by omega⟩
        subst hq1
        rw [iI_neg, show -(-(q : Int)) = (q : Int) by omega, ← iI_nI]
        refine c_Na_moveDown hG hl hN zn hz (by omega) (fun h1 g1 n1 lost a1 a2 a3 a4 a5 a6 => ?_)
        have e1 : (-(q : Int)).toNat = 0 := by omega
        have e2 : (-(-(q : Int))).toNat = q := by omega
        conv => whnf
        refine ⟨?_, hq h1 g1 n1 lost (Or.inr (Or.inl (by omega))) a1 a2 a3 (by rw [e1, e2, a4]; simp) a5 (by rw [e2]; exact a6), trivial⟩
        rcases (show lost = 0 ∨ lost = 1 by omega) with e | e <;> rw [e] <;> rfl
    · have zn : n = 0 := (nI_eq (by omega) (by omega)).mp (z.trans nI_0.symm)
      conv => whnf
      refine ⟨rfl, ?_, trivial⟩
      subst zn
      exact hq h g 0 0 (Or.inl rfl) Fg.rf hN hz (by simp [zv]) (by omega) ⟨fun q => by omega, fun q => absurd (by simp [zv]) q⟩
end NI

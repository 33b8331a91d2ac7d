/-! Natural: overSmall, lowerBy -/
/-- pure: what the limbs from t on are -/
def zh (b : Nat) (g : Nat → Nat) (n t : Nat) : Nat := zv b (fun j => g (t + j)) (n - t)
theorem zh_0 (b : Nat) (g : Nat → Nat) (n : Nat) : zh b g n 0 = zv b g n := by
  unfold zh
  rw [Nat.sub_zero]
  exact zv_congr (fun i _ => by rw [Nat.zero_add])
theorem zh_n (b : Nat) (g : Nat → Nat) (n : Nat) : zh b g n n = 0 := by unfold zh; rw [Nat.sub_self]; rfl
theorem zh_step {b : Nat} {g : Nat → Nat} {n t : Nat} (h : t < n) : zh b g n t = g t + b * zh b g n (t + 1) := by
  unfold zh
  rw [show n - t = 1 + (n - (t + 1)) by omega, zv_split, Nat.pow_one]
  have e1 : zv b (fun j => g (t + j)) 1 = g t := by simp [zv]
  rw [e1]
  congr 2
  exact zv_congr (fun i _ => by rw [Nat.add_assoc])
theorem zh_congr {b : Nat} {g g' : Nat → Nat} {n t : Nat} (h : ∀ j, t ≤ j → g j = g' j) : zh b g n t = zh b g' n t := zv_congr (fun i _ => h _ (by omega))
/-- pure: limbs beyond n are 0 -/
def zm (g : Nat → Nat) (n : Nat) : Nat → Nat := fun j => if j < n then g j else 0
theorem zm_in {g : Nat → Nat} {n j : Nat} (h : j < n) : zm g n j = g j := if_pos h
theorem zm_out {g : Nat → Nat} {n j : Nat} (h : n ≤ j) : zm g n j = 0 := if_neg (by omega)
theorem zm_lt {g : Nat → Nat} {n j : Nat} (h : g j < 1000000000) : zm g n j < 1000000000 := by unfold zm; split; exact h; decide
theorem zv_zm (b : Nat) (g : Nat → Nat) (n d : Nat) : zv b (zm g n) (n + d) = zv b g n := by
  induction d with
  | zero => exact zv_congr (fun i hi => zm_in hi)
  | succ d ih =>
    show zv b (zm g n) (n + d) + zm g n (n + d) * b ^ (n + d) = _
    rw [ih, zm_out (by omega)]
    omega
section NE
variable {l : Launch} {B : zd_B} {h : zd_H} {Q : zd_O → zd_H → Prop}
theorem w_Na_over (hG : zd_G B) (hl : l.stackTraces = false) {k R n m : Nat} {g0 : Nat → Nat} (hm : m < 1000000000) (hm1 : 1 < m)
    (hq : ∀ h' g' n', Fg B h h' (NS B k) 0 → Nt B h' k R g' n' → (n' = 0 ∨ g' (n' - 1) ≠ 0) → zv 1000000000 g' n' = zv 1000000000 g0 n / m → n' ≤ n → Q (.inl none) h') :
    ∀ (t : Nat) (h1 : zd_H) (g : Nat → Nat) (r : Nat) (w : Option Value), t ≤ n → Fg B h h1 (NS B k) 0 → Nt B h1 k R g n → (∀ j, j < t → g j = g0 j) → r < m → zh 1000000000 g n t * m + r = zh 1000000000 g0 n t → zd_W l B m_Na_overSmall 16 [some (.ref (zd_b0 B + k)), some (.int (nI m)), some (.long (lN r)), none, some (.int (nI t - 1)), w, none] [] h1 Q := by
  intro t
  induction t with
  | zero =>
    intro h1 g r w ht f hN hj hr hv
    refine zd_go (ok_Na_overSmall hG hl) [] 50 ?_
    conv => whnf
    refine ⟨fun z => ?_, fun z => absurd (by decide) z⟩
    conv => whnf
    refine ⟨⟨_, hN.1⟩, ⟨rfl, Nat.zero_le _, Nat.le_of_ble_eq_true rfl⟩, ?_⟩
    refine c_Na_trim hG hl hN (fun n' h2 a1 a2 a3 a4 a5 => ?_)
    conv => whnf
    refine ⟨hq h2 g n' (f.tr0 a4) a5 a3 ?_ a1, trivial⟩
    rw [zh_0, zh_0] at hv
    rw [a2, ← hv, Nat.mul_comm, Nat.mul_add_div (by omega), Nat.div_eq_of_lt hr, Nat.add_zero]
  | succ t ih =>
    intro h1 g r w ht f hN hj hr hv
    have r1 := hN.2.2.1
    have r2 := hN.2.2.2.1
    have hgt := hN.2.2.2.2 t
    have hp : r * 1000000000 + g t < m * 1000000000 := by
      have : (r + 1) * 1000000000 ≤ m * 1000000000 := Nat.mul_le_mul_right _ hr
      omega
    have hdiv : (r * 1000000000 + g t) / m < 1000000000 := by
      rw [Nat.div_lt_iff_lt_mul (by omega)]
      omega
    rw [nI_pred]
    refine zd_go (ok_Na_overSmall hG hl) [16] 50 ?_
    conv => whnf
    refine ⟨fun z => absurd z (nI_pos (by omega)), fun z => ?_⟩
    conv => whnf
    refine ⟨_, hN.1, ?_⟩
    conv => whnf
    refine ⟨R, _, Or.inl hN.2.1, vp_in_nI (by omega) (by omega), ?_⟩
    rw [nI_clamp (by omega)]
    conv => whnf
    refine ⟨_, hN.1, ?_⟩
    conv => whnf
    have e0 : lN r * 1000000000 + (nI (g t)).toInt64 = lN (r * 1000000000 + g t) := by rw [nI_l (by omega), show (1000000000 : Int64) = lN 1000000000 from rfl, lN_mul, lN_add]
    have em : (nI m).toInt64 = lN m := nI_l (by omega)
    have hne : ¬ (nI m).toInt64 = 0 := by
      rw [em]
      intro q
      have := (pk_lEQ (a := m) (b := 0) (by omega) (by omega)).mp q
      omega
    refine ⟨hne, ?_⟩
    have e1 : lN (r * 1000000000 + g t) / lN m = lN ((r * 1000000000 + g t) / m) := pk_lDiv (by omega) (by omega) (by omega)
    have e2 : lN (r * 1000000000 + g t) - lN (r * 1000000000 + g t) / lN m * lN m = lN ((r * 1000000000 + g t) % m) := pk_lRem (by omega) (by omega) (by omega)
    rw [e0, em, e1]
    conv => whnf
    refine ⟨R, _, hN.2.1, vp_in_nI (by omega) (by omega), ?_⟩
    rw [nI_clamp (by omega), lN_i]
    conv => whnf
    refine ⟨hne, ?_⟩
    rw [em, e2]
    conv => whnf
    refine ⟨?_, trivial⟩
    show zd_W l B m_Na_overSmall 16 [some (.ref (zd_b0 B + k)), some (.int (nI m)), some (.long (lN ((r * 1000000000 + g t) % m))), none, some (.int (nI t + (-1))), some (.long (lN (r * 1000000000 + g t))), none] [] _ Q
    rw [show nI t + (-1) = nI t - 1 from (Int32.sub_eq_add_neg _ _).symm]
    refine ih _ (zu g t ((r * 1000000000 + g t) / m)) _ _ (by omega) (f.set2 (Or.inr rfl)) (hN.put hdiv) (fun j hj2 => by rw [zu_n (by omega)]; exact hj j (by omega)) (Nat.mod_lt _ (by omega)) ?_
    rw [zh_step (by omega), zh_step (g := g0) (by omega), zu_s, ← hv, ← hj t (by omega), zh_congr (g := zu g t ((r * 1000000000 + g t) / m)) (g' := g) (fun j hj2 => zu_n (by omega))]
    have e4 := Nat.div_add_mod (r * 1000000000 + g t) m
    generalize zh 1000000000 g n (t + 1) = H at *
    generalize (r * 1000000000 + g t) / m = x at *
    generalize (r * 1000000000 + g t) % m = y at *
    rw [Nat.add_mul, Nat.mul_add, Nat.mul_assoc, Nat.mul_comm x m]
    omega
theorem c_Na_overSmall (hG : zd_G B) (hl : l.stackTraces = false) {k R n m : Nat} {g : Nat → Nat} (hN : Nt B h k R g n) (hm : m < 1000000000) (hm1 : 1 ≤ m) (hz : n = 0 ∨ g (n - 1) ≠ 0)
    (hq : ∀ h' g' n', Fg B h h' (NS B k) 0 → Nt B h' k R g' n' → (n' = 0 ∨ g' (n' - 1) ≠ 0) → zv 1000000000 g' n' = zv 1000000000 g n / m → n' ≤ n → Q (.inl none) h') : zd_M l B m_Na_overSmall [.ref (zd_b0 B + k), .int (nI m)] h Q := by
  refine zd_go (ok_Na_overSmall hG hl) [16] 50 ?_
  conv => whnf
  refine ⟨fun z => ?_, fun z => ?_⟩
  · have z' : 1 < m := (nI_ltI (a := 1) (by omega) (by omega)).mp z
    conv => whnf
    refine ⟨_, hN.1, ?_⟩
    conv => whnf
    refine ⟨?_, trivial⟩
    exact w_Na_over hG hl hm z' hq n h g 0 none (Nat.le_refl _) Fg.rf hN (fun j _ => rfl) (by omega) (by rw [zh_n]; omega)
  · have z' : ¬ 1 < m := fun q => z ((nI_ltI (a := 1) (by omega) (by omega)).mpr q)
    have e : m = 1 := by omega
    conv => whnf
    exact ⟨hq h g n Fg.rf hN hz (by rw [e, Nat.div_one]) (Nat.le_refl _), trivial⟩
/-- lowerBy: behind the second limb -/
theorem w_Na_lower38 (hG : zd_G B) (hl : l.stackTraces = false) {k R n j : Nat} {g : Nat → Nat} (hN : Nt B h k R g n) {i br x : Nat} {w : Option Value} (hi : i < n) (hbr : br ≤ 1) (hx : x < 1000000000)
    (kk : ∀ (br' v : Nat) (w' : Option Value), br' ≤ 1 → v < 1000000000 → v + x + br = g i + br' * 1000000000 → zd_W l B m_Na_lowerBy 4 [some (.ref (zd_b0 B + k)), some (.ref (zd_b0 B + j)), some (.int (nI br')), some (.int (nI (i + 1))), w'] [] (zd_set h (zd_b0 B + k + 1) (.inr (.inl (0, R, upd (fun i => nI (g i)) i (nI v))))) Q) :
    zd_W l B m_Na_lowerBy 38 [some (.ref (zd_b0 B + k)), some (.ref (zd_b0 B + j)), some (.int (nI br)), some (.int (nI i)), w] [.int (nI x), .int (nI (g i) - nI br)] h Q := by
  have r1 := hN.2.2.1
  have r2 := hN.2.2.2.1
  have hgi := hN.2.2.2.2 i
  have e0 : nI (g i) - nI br - nI x = iI ((g i : Int) - br - x) := by rw [iI_nI, iI_nI, iI_nI, iI_sub, iI_sub]
  have c0 : ((0 : Int32) ≤ iI ((g i : Int) - br - x)) ↔ (0 : Int) ≤ (g i : Int) - br - x := iI_le (a := 0) ⟨by omega, by omega⟩ ⟨by omega, by omega⟩
  refine zd_go (ok_Na_lowerBy hG hl) [4] 50 ?_
  conv => whnf
  rw [e0]
  refine ⟨fun z => ?_, fun z => ?_⟩
  · have z' := c0.mp z
    conv => whnf
    refine ⟨_, hN.1, ?_⟩
    conv => whnf
    refine ⟨fun z => ?_, fun z2 => absurd z z2⟩
    conv => whnf
    refine ⟨R, _, hN.2.1, vp_in_nI (by omega) (by omega), ?_⟩
    rw [nI_clamp (by omega), show iI ((g i : Int) - br - x) = nI (g i - br - x) by rw [iI_nI]; congr 1; omega]
    conv => whnf
    refine ⟨?_, trivial⟩
    have := kk 0 (g i - br - x) (some (.int (nI (g i - br - x)))) (by omega) (by omega) (by omega)
    rw [← nI_1 i] at this
    exact this
  · have z' : ¬ (0 : Int) ≤ (g i : Int) - br - x := fun q => z (c0.mpr q)
    conv => whnf
    refine ⟨_, hN.1, ?_⟩
    conv => whnf
    refine ⟨fun z2 => absurd z2 z, fun z => ?_⟩
    conv => whnf
    refine ⟨R, _, hN.2.1, vp_in_nI (by omega) (by omega), ?_⟩
    rw [nI_clamp (by omega), show iI ((g i : Int) - br - x) + 1000000000 = nI (g i + 1000000000 - br - x) by rw [show (1000000000 : Int32) = iI 1000000000 from rfl, iI_add, iI_nI]; congr 1; omega]
    conv => whnf
    refine ⟨?_, trivial⟩
    have := kk 1 (g i + 1000000000 - br - x) (some (.int (iI ((g i : Int) - br - x)))) (by omega) (by omega) (by omega)
    rw [← nI_1 i] at this
    exact this
theorem w_Na_lower (hG : zd_G B) (hl : l.stackTraces = false) {k R n j R2 n2 : Nat} {g0 g2 : Nat → Nat} (hkj : k ≠ j) (hle : n2 ≤ n) (hVW : zv 1000000000 g2 n2 ≤ zv 1000000000 g0 n)
    (hq : ∀ h' g' n', Fg B h h' (NS B k) 0 → Nt B h' k R g' n' → (n' = 0 ∨ g' (n' - 1) ≠ 0) → zv 1000000000 g' n' = zv 1000000000 g0 n - zv 1000000000 g2 n2 → n' ≤ n → Q (.inl none) h') :
    ∀ (d i : Nat) (h1 : zd_H) (g : Nat → Nat) (br : Nat) (w : Option Value), i + d = n → Fg B h h1 (NS B k) 0 → Nt B h1 k R g n → Nt B h1 j R2 g2 n2 → (∀ q, i ≤ q → g q = g0 q) → br ≤ 1 → zv 1000000000 g i + zv 1000000000 (zm g2 n2) i = zv 1000000000 g0 i + br * 1000000000 ^ i → zd_W l B m_Na_lowerBy 4 [some (.ref (zd_b0 B + k)), some (.ref (zd_b0 B + j)), some (.int (nI br)), some (.int (nI i)), w] [] h1 Q := by
  intro d
  induction d with
  | zero =>
    intro i h1 g br w hd f hN hJ hj hbr hv
    have hi : i = n := by omega
    subst hi
    refine zd_go (ok_Na_lowerBy hG hl) [] 50 ?_
    conv => whnf
    refine ⟨_, hN.1, ?_⟩
    conv => whnf
    refine ⟨fun z => ?_, fun z => absurd (Int32.le_refl _) z⟩
    conv => whnf
    refine ⟨⟨_, hN.1⟩, ⟨rfl, Nat.zero_le _, Nat.le_of_ble_eq_true rfl⟩, ?_⟩
    refine c_Na_trim hG hl hN (fun n' h2 a1 a2 a3 a4 a5 => ?_)
    conv => whnf
    refine ⟨hq h2 g n' (f.tr0 a4) a5 a3 ?_ a1, trivial⟩
    have hw : zv 1000000000 (zm g2 n2) i = zv 1000000000 g2 n2 := by
      have := zv_zm 1000000000 g2 n2 (i - n2)
      rwa [show n2 + (i - n2) = i by omega] at this
    have hlt := zv_lt (b := 1000000000) (g := g) (n := i) (fun q _ => hN.2.2.2.2 q)
    rw [hw] at hv
    rw [a2]
    rcases (show br = 0 ∨ br = 1 by omega) with e | e
    · rw [e] at hv; omega
    · rw [e] at hv; omega
  | succ d ih =>
    intro i h1 g br w hd f hN hJ hj hbr hv
    have r1 := hN.2.2.1
    have r2 := hN.2.2.2.1
    have r3 := hJ.2.2.1
    have r4 := hJ.2.2.2.1
    have body : zd_W l B m_Na_lowerBy 38 [some (.ref (zd_b0 B + k)), some (.ref (zd_b0 B + j)), some (.int (nI br)), some (.int (nI i)), w] [.int (nI (zm g2 n2 i)), .int (nI (g i) - nI br)] h1 Q := by
      refine w_Na_lower38 hG hl hN (by omega) hbr (zm_lt (hJ.2.2.2.2 i)) (fun br' v w' b1 b2 b3 => ?_)
      refine ih (i + 1) _ (zu g i v) br' w' (by omega) (f.set2 (Or.inr rfl)) (hN.put b2) (hJ.kept (Fg.set (S := NS B k) (Or.inr rfl)) (hN.apart hJ hkj).1 (hN.apart hJ hkj).2) (fun q hq2 => by rw [zu_n (by omega)]; exact hj q (by omega)) b1 ?_
      rw [zv_succ, zu_s, zv_zu_out (Nat.le_refl _), zv_succ, zv_succ, ← hj i (Nat.le_refl _), Nat.pow_succ]
      have e5 : (v + zm g2 n2 i + br) * 1000000000 ^ i = (g i + br' * 1000000000) * 1000000000 ^ i := by rw [b3]
      rw [Nat.add_mul, Nat.add_mul, Nat.add_mul, Nat.mul_assoc br', Nat.mul_comm 1000000000 (1000000000 ^ i)] at e5
      omega
    refine zd_go (ok_Na_lowerBy hG hl) [4, 38] 50 ?_
    conv => whnf
    refine ⟨_, hN.1, ?_⟩
    conv => whnf
    refine ⟨fun z => absurd z (nI_ge (by omega) (by omega)), fun z => ?_⟩
    conv => whnf
    refine ⟨_, hN.1, ?_⟩
    conv => whnf
    refine ⟨R, _, Or.inl hN.2.1, vp_in_nI (by omega) (by omega), ?_⟩
    rw [nI_clamp (by omega)]
    conv => whnf
    refine ⟨_, hJ.1, ?_⟩
    conv => whnf
    refine ⟨fun z => ?_, fun z => ?_⟩
    · have z' : n2 ≤ i := (nI_leI (by omega) (by omega)).mp z
      rw [zm_out z'] at body
      conv => whnf
      exact ⟨body, trivial⟩
    · have z' : ¬ n2 ≤ i := fun q => z ((nI_leI (by omega) (by omega)).mpr q)
      rw [zm_in (by omega)] at body
      conv => whnf
      refine ⟨_, hJ.1, ?_⟩
      conv => whnf
      refine ⟨R2, _, Or.inl hJ.2.1, vp_in_nI (by omega) (by omega), ?_⟩
      rw [nI_clamp (by omega)]
      conv => whnf
      exact ⟨body, trivial⟩
theorem c_Na_lowerBy (hG : zd_G B) (hl : l.stackTraces = false) {k R n j R2 n2 : Nat} {g g2 : Nat → Nat} (hN : Nt B h k R g n) (hJ : Nt B h j R2 g2 n2) (hkj : k ≠ j) (hle : n2 ≤ n) (hVW : zv 1000000000 g2 n2 ≤ zv 1000000000 g n)
    (hq : ∀ h' g' n', Fg B h h' (NS B k) 0 → Nt B h' k R g' n' → (n' = 0 ∨ g' (n' - 1) ≠ 0) → zv 1000000000 g' n' = zv 1000000000 g n - zv 1000000000 g2 n2 → n' ≤ n → Q (.inl none) h') : zd_M l B m_Na_lowerBy [.ref (zd_b0 B + k), .ref (zd_b0 B + j)] h Q := by
  refine zd_go (ok_Na_lowerBy hG hl) [4] 50 ?_
  conv => whnf
  refine ⟨?_, trivial⟩
  exact w_Na_lower hG hl hkj hle hVW hq n 0 h g 0 none (by omega) Fg.rf hN hJ (fun q _ => rfl) (by omega) (by simp [zv])
end NE

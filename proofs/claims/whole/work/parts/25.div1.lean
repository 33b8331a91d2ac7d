/-! Divider -/
section DA
variable {l : Launch} {B : zd_B} {h : zd_H} {Q : zd_O → zd_H → Prop}
/-- the loop of timesSmall -/
theorem w_Na_times2 (hG : zd_G B) (hl : l.stackTraces = false) {k R n m : Nat} {g0 : Nat → Nat} (hm : m < 1000000000) (hm1 : 1 ≤ m) 
    (hq : ∀ h' g' n', Fg B h h' (NS B k) 0 → Nt B h' k R g' n' → zv 1000000000 g' n' = zv 1000000000 g0 n * m → (n' = n ∨ (n' = n + 1 ∧ g' n ≠ 0)) → Q (.inl none) h')
    (hth : ∀ h', R < n + 1 → 1000000000 ^ n ≤ zv 1000000000 g0 n * m → Fx B h h' (NS B k) 11 → (∃ g' n', Nt B h' k R g' n') → Q (.inr (zd_b0 B + h.1, 11)) h') :
    ∀ (d i : Nat) (h1 : zd_H) (g : Nat → Nat) (c : Nat) (w : Option Value), i + d = n → Fg B h h1 (NS B k) 0 → Nt B h1 k R g n → Rm h1 → (∀ j, i ≤ j → g j = g0 j) → c < m → zv 1000000000 g i + c * 1000000000 ^ i = zv 1000000000 g0 i * m → zd_W l B m_Na_timesSmall 5 [some (.ref (zd_b0 B + k)), some (.int (nI m)), some (.long (lN c)), none, some (.int (nI i)), w, none] [] h1 Q := by
  intro d
  induction d with
  | zero =>
    intro i h1 g c w hd f hN hr hj hc hv
    have hi : i = n := by omega
    subst hi
    have r2 := hN.2.2.2.1
    have r1 := hN.2.2.1
    refine zd_go (ok_Na_timesSmall hG hl) [] 50 ?_
    conv => whnf
    refine ⟨_, hN.1, ?_⟩
    conv => whnf
    refine ⟨fun z => ?_, fun z => absurd (Int32.le_refl _) z⟩
    conv => whnf
    refine ⟨fun z => ?_, fun z => ?_⟩
    · have z' : c = 0 := by
        have := (lg_cmp_le (lN c) 0).mp z
        have := (pk_lLE (a := c) (b := 0) (by omega) (by omega)).mp this
        omega
      conv => whnf
      refine ⟨hq _ g i f hN ?_ (Or.inl rfl), trivial⟩
      rw [z'] at hv
      omega
    · have z' : c ≠ 0 := fun e => z (by rw [e]; decide)
      conv => whnf
      refine ⟨_, hN.1, ?_⟩
      conv => whnf
      refine ⟨⟨_, hN.1⟩, ⟨rfl, Nat.zero_le _, Nat.le_of_ble_eq_true rfl⟩, ?_⟩
      rw [nI_1]
      refine c_Na_claim hG hl hN (by omega) hr (fun h2 a1 a2 a3 => ?_) (fun h2 a1 a2 => ?_)
      rotate_left
      · have : 1 * 1000000000 ^ i ≤ c * 1000000000 ^ i := Nat.mul_le_mul_right _ (by omega)
        have := hth h2 a1 (by omega) (Fx.after f (a2.mono (fun _ z => z.elim))) ⟨g, i, hN.kept a2.1 (fun z => z) (fun z => z)⟩
        rw [f.1]
        exact this
      conv => whnf
      refine ⟨_, a3.1, ?_⟩
      conv => whnf
      refine ⟨_, a3.1, ?_⟩
      conv => whnf
      refine ⟨R, _, a3.2.1, by rw [nI_pred]; exact vp_in_nI (by omega) (by omega), ?_⟩
      rw [nI_pred, nI_clamp (by omega), lN_i]
      conv => whnf
      refine ⟨hq _ (zu g i c) (i + 1) ((f.tr0 a2).set2 (Or.inr rfl)) (a3.put (v := c) (by omega)) ?_ (Or.inr ⟨rfl, by rw [zu_s]; exact z'⟩), trivial⟩
      rw [zv_succ, zu_s, zv_zu_out (Nat.le_refl _)]
      exact hv
  | succ d ih =>
    intro i h1 g c w hd f hN hr hj hc hv
    have r2 := hN.2.2.2.1
    have r1 := hN.2.2.1
    have hgi := hN.2.2.2.2 i
    have hp : g i * m + c < 1000000000 * m := by
      have : (g i + 1) * m ≤ 1000000000 * m := Nat.mul_le_mul_right _ hgi
      rw [Nat.add_mul, Nat.one_mul] at this
      omega
    have hp2 : 1000000000 * m ≤ 1000000000 * 999999999 := Nat.mul_le_mul_left _ (by omega)
    refine zd_go (ok_Na_timesSmall hG hl) [5] 50 ?_
    conv => whnf
    refine ⟨_, hN.1, ?_⟩
    conv => whnf
    refine ⟨fun z => absurd z (nI_ge (by omega) (by omega)), fun z => ?_⟩
    conv => whnf
    refine ⟨_, hN.1, ?_⟩
    conv => whnf
    refine ⟨R, _, Or.inl hN.2.1, vp_in_nI (by omega) (by omega), ?_⟩
    rw [nI_clamp (by omega)]
    conv => whnf
    refine ⟨by decide, ?_⟩
    have e1 : (nI (g i)).toInt64 * (nI m).toInt64 + lN c = lN (g i * m + c) := by rw [nI_l (by omega), nI_l (by omega), lN_mul, lN_add]
    have e2 : lN (g i * m + c) / 1000000000 = lN ((g i * m + c) / 1000000000) := pk_lDiv (b := 1000000000) (by omega) (by omega) (by omega)
    rw [e1, e2]
    conv => whnf
    refine ⟨_, hN.1, ?_⟩
    conv => whnf
    refine ⟨R, _, hN.2.1, vp_in_nI (by omega) (by omega), ?_⟩
    have e3 : lN (g i * m + c) - lN ((g i * m + c) / 1000000000) * 1000000000 = lN ((g i * m + c) % 1000000000) := by
      rw [show (1000000000 : Int64) = lN 1000000000 from rfl, lN_mul, lN_sub (by omega)]
      congr 1
      omega
    rw [nI_clamp (by omega), e3, lN_i]
    conv => whnf
    refine ⟨?_, trivial⟩
    show zd_W l B m_Na_timesSmall 5 [some (.ref (zd_b0 B + k)), some (.int (nI m)), some (.long (lN ((g i * m + c) / 1000000000))), none, some (.int (nI i + 1)), some (.long (lN (g i * m + c))), none] [] _ Q
    rw [nI_1]
    have hc2 : (g i * m + c) / 1000000000 < m := by omega
    refine ih (i + 1) _ (zu g i ((g i * m + c) % 1000000000)) _ _ (by omega) (f.set2 (Or.inr rfl)) (hN.put (Nat.mod_lt _ (by decide))) hr (fun j hj2 => by rw [zu_n (by omega)]; exact hj j (by omega)) hc2 ?_
    rw [zv_succ, zu_s, zv_zu_out (Nat.le_refl _), zv_succ, ← hj i (Nat.le_refl _), Nat.add_mul, ← hv, Nat.pow_succ]
    have e4 := Nat.mod_add_div (g i * m + c) 1000000000
    generalize (g i * m + c) % 1000000000 = x at *
    generalize (g i * m + c) / 1000000000 = y at *
    generalize 1000000000 ^ i = p at *
    have e5 : (x + 1000000000 * y) * p = (g i * m + c) * p := by rw [e4]
    rw [Nat.add_mul, Nat.add_mul] at e5
    have e6 : y * (p * 1000000000) = 1000000000 * y * p := by rw [Nat.mul_comm p, ← Nat.mul_assoc, Nat.mul_comm y]
    have e7 : g i * p * m = g i * m * p := by rw [Nat.mul_assoc, Nat.mul_comm p, ← Nat.mul_assoc]
    omega
theorem c_Na_timesSmall2 (hG : zd_G B) (hl : l.stackTraces = false) {k R n m : Nat} {g : Nat → Nat} (hN : Nt B h k R g n) (hr : Rm h) (hm : m < 1000000000) (hm1 : 1 ≤ m) 
    (hq : ∀ h' g' n', Fg B h h' (NS B k) 0 → Nt B h' k R g' n' → zv 1000000000 g' n' = zv 1000000000 g n * m → (n' = n ∨ (n' = n + 1 ∧ g' n ≠ 0)) → Q (.inl none) h')
    (hth : ∀ h', R < n + 1 → 1000000000 ^ n ≤ zv 1000000000 g n * m → Fx B h h' (NS B k) 11 → (∃ g' n', Nt B h' k R g' n') → Q (.inr (zd_b0 B + h.1, 11)) h') : zd_M l B m_Na_timesSmall [.ref (zd_b0 B + k), .int (nI m)] h Q := by
  refine zd_go (ok_Na_timesSmall hG hl) [5] 50 ?_
  conv => whnf
  refine ⟨?_, trivial⟩
  exact w_Na_times2 hG hl hm hm1 hq hth n 0 h g 0 none (by omega) Fg.rf hN hr (fun j _ => rfl) (by omega) (by simp [zv])
end DA

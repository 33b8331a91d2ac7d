/-! Natural: moveDown -/
/-- pure: shifting down -/
theorem zs_down {g g0 : Nat → Nat} {w i n low high v : Nat} (hb : low * high = 1000000000) (hv : v = g0 (w + i) / low + zm g0 n (w + i + 1) % low * high) (hin : w + i < n)
    (h : zv 1000000000 g i * low + g0 w % low = zv 1000000000 (fun j => g0 (w + j)) i + zm g0 n (w + i) % low * 1000000000 ^ i) :
    (zv 1000000000 g i + v * 1000000000 ^ i) * low + g0 w % low = zv 1000000000 (fun j => g0 (w + j)) i + g0 (w + i) * 1000000000 ^ i + zm g0 n (w + i + 1) % low * (1000000000 ^ i * 1000000000) := by
  rw [zm_in hin] at h
  have e1 := Nat.div_add_mod (g0 (w + i)) low
  generalize g0 (w + i) = x at *
  generalize zm g0 n (w + i + 1) % low = y at *
  generalize zv 1000000000 (fun j => g0 (w + j)) i = Z at *
  generalize zv 1000000000 g i = G at *
  generalize g0 w % low = c at *
  generalize 1000000000 ^ i = P at *
  have e2 : v * P * low = (low * (x / low)) * P + y * (P * 1000000000) := by
    rw [hv, Nat.add_mul, Nat.add_mul]
    have a1 : x / low * P * low = low * (x / low) * P := by rw [Nat.mul_assoc, Nat.mul_comm P low, ← Nat.mul_assoc, Nat.mul_comm (x / low)]
    have a2 : y * high * P * low = y * (P * 1000000000) := by rw [← hb]; simp [Nat.mul_assoc, Nat.mul_comm, Nat.mul_left_comm]
    rw [a1, a2]
  rw [Nat.add_mul, e2]
  have e3 : x * P = low * (x / low) * P + x % low * P := by rw [← Nat.add_mul, e1]
  omega
theorem limb_down {x a low high : Nat} (hb : low * high = 1000000000) (hl : 0 < low) (hx : x < 1000000000) : x / low + a % low * high < 1000000000 := by
  have h1 : x / low < high := by
    rw [Nat.div_lt_iff_lt_mul hl, Nat.mul_comm, hb]
    exact hx
  have h2 : (a % low + 1) * high ≤ low * high := Nat.mul_le_mul_right _ (Nat.mod_lt _ hl)
  rw [Nat.add_mul, Nat.one_mul] at h2
  omega
theorem pow_hl {r : Nat} (h : r ≤ 9) : (10 : Nat) ^ r * 10 ^ (9 - r) = 1000000000 := by rw [← Nat.pow_add, show r + (9 - r) = 9 by omega]
section NG
variable {l : Launch} {B : zd_B} {h : zd_H} {Q : zd_O → zd_H → Prop}
/-- the second loop of moveDown -/
theorem w_Na_down93 (hG : zd_G B) (hl : l.stackTraces = false) {k R n w low high lost : Nat} {p : Int32} {g0 : Nat → Nat} (hb : low * high = 1000000000) (hl0 : 0 < low) (hl1 : low ≤ 1000000000) (hw : w < n) (hlost : lost ≤ 1)
    (hq : ∀ h' g' n', Fg B h h' (NS B k) 0 → Nt B h' k R g' n' → (n' = 0 ∨ g' (n' - 1) ≠ 0) → zv 1000000000 g' n' = zv 1000000000 (fun j => g0 (w + j)) (n - w) / low → n' ≤ n - w → Q (.inl (some (.int (nI lost)))) h') :
    ∀ (d i : Nat) (h1 : zd_H) (g : Nat → Nat) (w7 : Option Value), w + i + d = n → Fg B h h1 (NS B k) 0 → Nt B h1 k R g n → (∀ q, w + i ≤ q → g q = g0 q) → zv 1000000000 g i * low + g0 w % low = zv 1000000000 (fun j => g0 (w + j)) i + zm g0 n (w + i) % low * 1000000000 ^ i →
      zd_W l B m_Na_moveDown 93 [some (.ref (zd_b0 B + k)), some (.int p), some (.int (nI w)), some (.int (nI low)), some (.int (nI high)), some (.int (nI lost)), some (.int (nI (w + i))), w7] [] h1 Q := by
  have hh1 : high ≤ 1000000000 := by rw [← hb]; exact Nat.le_mul_of_pos_left _ hl0
  intro d
  induction d with
  | zero =>
    intro i h1 g w7 hd f hN hj hv
    have r1 := hN.2.2.1
    have r2 := hN.2.2.2.1
    have hi : i = n - w := by omega
    refine zd_go (ok_Na_moveDown hG hl) [] 60 ?_
    conv => whnf
    refine ⟨_, hN.1, ?_⟩
    conv => whnf
    refine ⟨fun z => ?_, fun z => absurd (nI_le (by omega) (by omega)) z⟩
    conv => whnf
    refine ⟨_, hN.1, ?_⟩
    conv => whnf
    refine ⟨_, hN.1, Nat.lt_succ_self 1, ⟨rfl, rfl⟩, ?_⟩
    rw [pk_sub (by omega)]
    conv => whnf
    have hN2 := hN.size (n' := n - w) (by omega)
    refine ⟨⟨_, hN2.1⟩, ⟨rfl, Nat.zero_le _, Nat.le_of_ble_eq_true rfl⟩, ?_⟩
    refine c_Na_trim hG hl hN2 (fun n' h2 a1 a2 a3 a4 a5 => ?_)
    conv => whnf
    refine ⟨?_, ?_, trivial⟩
    · rcases (show lost = 0 ∨ lost = 1 by omega) with e | e <;> rw [e] <;> rfl
    · refine hq h2 g n' ((f.set2 (Or.inl rfl)).tr0 a4) a5 a3 ?_ a1
      rw [a2, ← hi]
      rw [zm_out (by omega)] at hv
      rw [Nat.zero_mod, Nat.zero_mul, Nat.add_zero] at hv
      rw [← hv, Nat.mul_comm, Nat.mul_add_div hl0, Nat.div_eq_of_lt (Nat.mod_lt _ hl0), Nat.add_zero]
  | succ d ih =>
    intro i h1 g w7 hd f hN hj hv
    have r1 := hN.2.2.1
    have r2 := hN.2.2.2.1
    have hgi := hN.2.2.2.2 (w + i)
    have body : zd_W l B m_Na_moveDown 126 [some (.ref (zd_b0 B + k)), some (.int p), some (.int (nI w)), some (.int (nI low)), some (.int (nI high)), some (.int (nI lost)), some (.int (nI (w + i))), w7] [.int (nI (zm g0 n (w + i + 1)))] h1 Q := by
      have ha : zm g0 n (w + i + 1) < 1000000000 := zm_lt (by rw [← hj (w + i + 1) (by omega)]; exact hN.2.2.2.2 _)
      have hlim := limb_down (x := g (w + i)) (a := zm g0 n (w + i + 1)) hb hl0 hgi
      have hmod : zm g0 n (w + i + 1) % low < low := Nat.mod_lt _ hl0
      refine zd_go (ok_Na_moveDown hG hl) [93] 60 ?_
      conv => whnf
      refine ⟨_, hN.1, ?_⟩
      conv => whnf
      refine ⟨_, hN.1, ?_⟩
      conv => whnf
      refine ⟨R, _, Or.inl hN.2.1, vp_in_nI (by omega) (by omega), ?_⟩
      rw [nI_clamp (by omega)]
      conv => whnf
      refine ⟨nI_ne0 hl0 (by omega), ?_⟩
      conv => whnf
      refine ⟨nI_ne0 hl0 (by omega), ?_⟩
      conv => whnf
      refine ⟨R, _, hN.2.1, by rw [pk_sub (by omega)]; exact vp_in_nI (by omega) (by omega), ?_⟩
      rw [pk_sub (by omega), nI_clamp (by omega), pk_div (by omega) hl0 (by omega), pk_rem (by omega) hl0 (by omega), pk_mul, nI_add]
      conv => whnf
      refine ⟨?_, trivial⟩
      have := ih (i + 1) _ (zu g i (g (w + i) / low + zm g0 n (w + i + 1) % low * high)) (some (.int (nI (zm g0 n (w + i + 1))))) (by omega) (f.set2 (Or.inr rfl)) (hN.put (i := i) hlim) (fun q hq2 => by rw [zu_n (by omega)]; exact hj q (by omega)) (by
        rw [zv_succ, zu_s, zv_zu_out (Nat.le_refl _), zv_succ, hj (w + i) (Nat.le_refl _), Nat.pow_succ, show w + (i + 1) = w + i + 1 by omega]
        exact zs_down hb rfl (by omega) hv)
      rw [show w + (i + 1) = (w + i) + 1 by omega, ← nI_1 (w + i)] at this
      rw [show w + i - w = i by omega]
      exact this
    refine zd_go (ok_Na_moveDown hG hl) [93, 126] 60 ?_
    conv => whnf
    refine ⟨_, hN.1, ?_⟩
    conv => whnf
    refine ⟨fun z => absurd z (nI_ge (by omega) (by omega)), fun z => ?_⟩
    conv => whnf
    refine ⟨_, hN.1, ?_⟩
    conv => whnf
    refine ⟨fun z => ?_, fun z => ?_⟩
    · rw [nI_1] at z
      have z' : n ≤ w + i + 1 := (nI_leI (by omega) (by omega)).mp z
      rw [zm_out z'] at body
      conv => whnf
      exact ⟨body, trivial⟩
    · rw [nI_1] at z
      have z' : ¬ n ≤ w + i + 1 := fun q => z ((nI_leI (by omega) (by omega)).mpr q)
      rw [zm_in (by omega), ← hj (w + i + 1) (by omega)] at body
      conv => whnf
      refine ⟨_, hN.1, ?_⟩
      conv => whnf
      refine ⟨R, _, Or.inl hN.2.1, by rw [nI_1]; exact vp_in_nI (by omega) (by omega), ?_⟩
      rw [nI_1, nI_clamp (by omega)]
      conv => whnf
      exact ⟨body, trivial⟩
/-- the first loop: was anything lost -/
theorem w_Na_down56 (hG : zd_G B) (hl : l.stackTraces = false) {k R n w : Nat} {p lowv highv : Int32} {g : Nat → Nat} {P0 : Prop} (hN : Nt B h k R g n) (hw : w < n)
    (kk : ∀ lost, lost ≤ 1 → (lost = 1 ↔ (P0 ∨ ∃ q, q < w ∧ g q ≠ 0)) → ∀ w6, zd_W l B m_Na_moveDown 90 [some (.ref (zd_b0 B + k)), some (.int p), some (.int (nI w)), some (.int lowv), some (.int highv), some (.int (nI lost)), some (.int w6), none] [] h Q) :
    ∀ (d i lost : Nat), i + d = w → lost ≤ 1 → (lost = 1 ↔ (P0 ∨ ∃ q, q < i ∧ g q ≠ 0)) → zd_W l B m_Na_moveDown 56 [some (.ref (zd_b0 B + k)), some (.int p), some (.int (nI w)), some (.int lowv), some (.int highv), some (.int (nI lost)), some (.int (nI i)), none] [] h Q := by
  have r1 := hN.2.2.1
  have r2 := hN.2.2.2.1
  intro d
  induction d with
  | zero =>
    intro i lost hd hlo hiff
    have hi : i = w := by omega
    subst hi
    refine zd_go (ok_Na_moveDown hG hl) [90] 60 ?_
    conv => whnf
    refine ⟨fun z => ?_, fun z => absurd (Int32.le_refl _) z⟩
    conv => whnf
    exact ⟨kk lost hlo hiff (nI i), trivial⟩
  | succ d ih =>
    intro i lost hd hlo hiff
    have hgi := hN.2.2.2.2 i
    refine zd_go (ok_Na_moveDown hG hl) [56, 90] 60 ?_
    conv => whnf
    refine ⟨fun z => absurd z (nI_ge (by omega) (by omega)), fun z => ?_⟩
    conv => whnf
    refine ⟨fun z => ?_, fun z => ?_⟩
    · have hl1 : lost = 1 := by
        rcases (show lost = 0 ∨ lost = 1 by omega) with e | e
        · exact absurd (by rw [e]; exact nI_0) z
        · exact e
      conv => whnf
      refine ⟨kk lost hlo ⟨fun _ => ?_, fun _ => hl1⟩ (nI i), trivial⟩
      rcases hiff.mp hl1 with q | ⟨q, q1, q2⟩
      · exact Or.inl q
      · exact Or.inr ⟨q, by omega, q2⟩
    · have hl0 : lost = 0 := (nI_eq (by omega) (by omega)).mp (z.trans nI_0.symm)
      have hno : ¬ (P0 ∨ ∃ q, q < i ∧ g q ≠ 0) := fun q => by have := hiff.mpr q; omega
      conv => whnf
      refine ⟨_, hN.1, ?_⟩
      conv => whnf
      refine ⟨R, _, Or.inl hN.2.1, vp_in_nI (by omega) (by omega), ?_⟩
      rw [nI_clamp (by omega)]
      conv => whnf
      refine ⟨fun z => ?_, fun z => ?_⟩
      · have z' : g i = 0 := (nI_eq (by omega) (by omega)).mp (z.trans nI_0.symm)
        conv => whnf
        refine ⟨?_, trivial⟩
        have := ih (i + 1) 0 (by omega) (by omega) ⟨fun q => by omega, fun q => by
          exfalso
          rcases q with q | ⟨q, q1, q2⟩
          · exact hno (Or.inl q)
          · by_cases e : q = i
            · rw [e] at q2; exact q2 z'
            · exact hno (Or.inr ⟨q, by omega, q2⟩)⟩
        rw [← nI_1 i] at this
        exact this
      · have z' : g i ≠ 0 := fun e => z (by show nI (g i) = 0; rw [e]; exact nI_0)
        conv => whnf
        refine ⟨?_, trivial⟩
        have := ih (i + 1) 1 (by omega) (by omega) ⟨fun _ => Or.inr ⟨i, by omega, z'⟩, fun _ => rfl⟩
        rw [← nI_1 i] at this
        exact this
end NG

/-! signed division; become, trailingZeros, floorDiv, floorMod -/
theorem iI_tdiv {a b : Int} (ha : iR a) (hb : iR b) (h1 : 0 < b) : iI a / iI b = iI (a.tdiv b) := by
  have hne : iI b ≠ -1 := fun q => by
    have e := iI_t hb
    rw [q] at e
    have : (-1 : Int32).toInt = -1 := by decide
    omega
  have h2 := Int.natAbs_tdiv_le_natAbs a b
  have hr : iR (a.tdiv b) := by
    unfold iR at *
    by_cases h0 : 0 ≤ a
    · have := Int.tdiv_nonneg h0 (by omega : 0 ≤ b)
      omega
    · have : a.tdiv b ≤ 0 := by
        have := Int.tdiv_nonneg (a := -a) (b := b) (by omega) (by omega)
        rw [Int.neg_tdiv] at this
        omega
      omega
  apply Int32.toInt.inj
  rw [Int32.toInt_div_of_ne_right _ _ hne, iI_t ha, iI_t hb, iI_t hr]
theorem lI_tdiv {a b : Int} (ha : lR a) (hb : lR b) (h1 : 0 < b) : lI a / lI b = lI (a.tdiv b) := by
  have hne : lI b ≠ -1 := fun q => by
    have e := lI_t hb
    rw [q] at e
    have : (-1 : Int64).toInt = -1 := by decide
    omega
  have h2 := Int.natAbs_tdiv_le_natAbs a b
  have hr : lR (a.tdiv b) := by
    unfold lR at *
    by_cases h0 : 0 ≤ a
    · have := Int.tdiv_nonneg h0 (by omega : 0 ≤ b)
      omega
    · have : a.tdiv b ≤ 0 := by
        have := Int.tdiv_nonneg (a := -a) (b := b) (by omega) (by omega)
        rw [Int.neg_tdiv] at this
        omega
      omega
  apply Int64.toInt.inj
  rw [Int64.toInt_div_of_ne_right _ _ hne, lI_t ha, lI_t hb, lI_t hr]
theorem iI_tmod {a b : Int} (ha : iR a) (hb : iR b) (h1 : 0 < b) : iI a - iI a / iI b * iI b = iI (a.tmod b) := by
  rw [iI_tdiv ha hb h1, iI_mul, iI_sub]
  congr 1
  have := Int.mul_tdiv_add_tmod a b
  rw [Int.mul_comm] at this
  omega
theorem lI_tmod {a b : Int} (ha : lR a) (hb : lR b) (h1 : 0 < b) : lI a - lI a / lI b * lI b = lI (a.tmod b) := by
  rw [lI_tdiv ha hb h1, lI_mul, lI_sub]
  congr 1
  have := Int.mul_tdiv_add_tmod a b
  rw [Int.mul_comm] at this
  omega
theorem negdiv (m b : Nat) : (-(m : Int)).tdiv (b : Int) = -((m / b : Nat) : Int) := by rw [Int.neg_tdiv, Int.ofNat_tdiv]
theorem negmod (m b : Nat) : (-(m : Int)).tmod (b : Int) = -((m % b : Nat) : Int) := by rw [Int.neg_tmod, Int.ofNat_tmod]
theorem xor_ge {x y : Int32} (hy : 0 ≤ y) : 0 ≤ x ^^^ y ↔ 0 ≤ x := by
  have key : ∀ z : Int32, 0 ≤ z ↔ z.toBitVec.msb = false := fun z => by
    rw [Int32.le_iff_toBitVec_sle, BitVec.sle_eq_not_slt]
    have : z.toBitVec.slt (0 : Int32).toBitVec = z.toBitVec.msb := by
      show z.toBitVec.slt 0#32 = _
      rw [BitVec.slt_zero_eq_msb]
    rw [this]
    cases z.toBitVec.msb <;> simp
  rw [key, key, Int32.toBitVec_xor, BitVec.msb_xor, (key y).mp hy, Bool.xor_false]
section NJ
variable {l : Launch} {B : zd_B} {h : zd_H} {Q : zd_O → zd_H → Prop}
theorem c_Ma_floorDiv (hG : zd_G B) (hl : l.stackTraces = false) {a b : Int} (ha : iR a) (hb : iR b) (h1 : 0 < b) (hq : Q (.inl (some (.int (iI (a / b))))) h) : zd_M l B m_Ma_floorDiv [.int (iI a), .int (iI b)] h Q := by
  have h0R : iR 0 := ⟨by omega, by omega⟩
  have hb0 : (0 : Int32) ≤ iI b := (iI_le h0R hb).mpr (by omega)
  have eq := Int.mul_tdiv_add_tmod a b
  have ee := Int.mul_ediv_add_emod a b
  have l1 := Int.emod_nonneg a (show b ≠ 0 by omega)
  have l2 := Int.emod_lt_of_pos a h1
  refine zd_go (ok_Ma_floorDiv hG hl) [] 60 ?_
  conv => whnf
  refine ⟨fun q => by have := (iI_eq hb h0R).mp q; omega, ?_⟩
  conv => whnf
  refine ⟨fun z => ?_, fun z => ?_⟩
  · have z' : 0 ≤ a := (iI_le h0R ha).mp ((xor_ge hb0).mp z)
    rw [iI_div ha z' hb h1]
    conv => whnf
    refine ⟨rfl, ?_, trivial⟩
    exact hq
  · have z' : a < 0 := by
      have : ¬ 0 ≤ a := fun q => z ((xor_ge hb0).mpr ((iI_le h0R ha).mpr q))
      omega
    rw [iI_tdiv ha hb h1]
    have hnp : a.tdiv b ≤ 0 ∧ a ≤ a.tdiv b := by
      have h2 := Int.natAbs_tdiv_le_natAbs a b
      have := Int.tdiv_nonneg (a := -a) (b := b) (by omega) (by omega)
      rw [Int.neg_tdiv] at this
      omega
    have tm : a.tmod b ≤ 0 ∧ -b < a.tmod b := by
      have h3 := Int.tmod_nonneg b (show 0 ≤ -a by omega)
      have h4 := Int.tmod_lt_of_pos (-a) h1
      rw [Int.neg_tmod] at h3 h4
      omega
    have hmul : iR (a.tdiv b * b) := by
      rw [Int.mul_comm]
      unfold iR at *
      omega
    conv => whnf
    refine ⟨fun z => ?_, fun z => ?_⟩
    · rw [iI_mul] at z
      have z2 : a.tdiv b * b = a := (iI_eq hmul ha).mp z
      conv => whnf
      refine ⟨rfl, ?_, trivial⟩
      rw [show a / b = a.tdiv b by conv => lhs; rw [← z2]
                                   exact Int.mul_ediv_cancel _ (by omega)] at hq
      exact hq
    · rw [iI_mul] at z
      have z2 : a.tdiv b * b ≠ a := fun q => z (by rw [q])
      rw [Int.mul_comm] at z2
      have e1 : a / b = a.tdiv b - 1 := by
        have : b * (a / b) + a % b = b * (a.tdiv b - 1) + (a.tmod b + b) := by
          rw [Int.mul_sub, Int.mul_one]
          omega
        refine (Int.ediv_emod_unique h1 (r := a.tmod b + b) (q := a.tdiv b - 1)).mpr ⟨by rw [Int.mul_sub, Int.mul_one]; omega, by omega, by omega⟩ |>.1
      conv => whnf
      refine ⟨rfl, ?_, trivial⟩
      show Q (.inl (some (.int (iI (a.tdiv b) - iI 1)))) h
      rw [iI_sub, ← e1]
      exact hq
theorem c_Ma_floorMod (hG : zd_G B) (hl : l.stackTraces = false) {a b : Int} (ha : iR a) (hb : iR b) (h1 : 0 < b) (hq : Q (.inl (some (.int (iI (a % b))))) h) : zd_M l B m_Ma_floorMod [.int (iI a), .int (iI b)] h Q := by
  have h0R : iR 0 := ⟨by omega, by omega⟩
  have hb0 : (0 : Int32) ≤ iI b := (iI_le h0R hb).mpr (by omega)
  have eq := Int.mul_tdiv_add_tmod a b
  refine zd_go (ok_Ma_floorMod hG hl) [] 60 ?_
  conv => whnf
  refine ⟨fun q => by have := (iI_eq hb h0R).mp q; omega, ?_⟩
  conv => whnf
  refine ⟨fun z => ?_, fun z => ?_⟩
  · have z' : 0 ≤ a := (iI_le h0R ha).mp ((xor_ge hb0).mp z)
    rw [iI_rem ha z' hb h1]
    conv => whnf
    refine ⟨rfl, ?_, trivial⟩
    exact hq
  · have z' : a < 0 := by
      have : ¬ 0 ≤ a := fun q => z ((xor_ge hb0).mpr ((iI_le h0R ha).mpr q))
      omega
    rw [iI_tmod ha hb h1]
    have tm : a.tmod b ≤ 0 ∧ -b < a.tmod b := by
      have h3 := Int.tmod_nonneg b (show 0 ≤ -a by omega)
      have h4 := Int.tmod_lt_of_pos (-a) h1
      rw [Int.neg_tmod] at h3 h4
      omega
    have tR : iR (a.tmod b) := by unfold iR at *; omega
    conv => whnf
    refine ⟨fun z => ?_, fun z => ?_⟩
    · have z2 : a.tmod b = 0 := (iI_eq tR h0R).mp z
      conv => whnf
      refine ⟨rfl, ?_, trivial⟩
      have e1 : a % b = 0 := by
        have : b ∣ a := Int.dvd_of_tmod_eq_zero z2
        exact Int.emod_eq_zero_of_dvd this
      rw [e1] at hq
      rw [z2]
      exact hq
    · have z2 : a.tmod b ≠ 0 := fun q => z (by rw [q]; rfl)
      have e1 : a % b = a.tmod b + b := by
        refine (Int.ediv_emod_unique h1 (r := a.tmod b + b) (q := a.tdiv b - 1)).mpr ⟨by rw [Int.mul_sub, Int.mul_one]; omega, by omega, by omega⟩ |>.2
      conv => whnf
      refine ⟨rfl, ?_, trivial⟩
      show Q (.inl (some (.int (iI (a.tmod b) + iI b)))) h
      rw [iI_add, ← e1]
      exact hq
theorem w_Na_become (hG : zd_G B) (hl : l.stackTraces = false) {k R m : Nat} {x : Int64} (hR : 3 ≤ R) (hm : m ≤ 9223372036854775808)
    (hq : ∀ h' g' n', Fg B h h' (NS B k) 0 → Nt B h' k R g' n' → (n' = 0 ∨ g' (n' - 1) ≠ 0) → zv 1000000000 g' n' = m → Q (.inl none) h') :
    ∀ (d i q : Nat) (h1 : zd_H) (g : Nat → Nat), i + d = 3 → Fg B h h1 (NS B k) 0 → Nt B h1 k R g 3 → zv 1000000000 g i + q * 1000000000 ^ i = m → zd_W l B m_Na_become 21 [some (.ref (zd_b0 B + k)), some (.long x), none, some (.long (lI (-(q : Int)))), none, some (.int (nI i))] [] h1 Q := by
  have b1 : lR ((1000000000 : Nat) : Int) := ⟨by omega, by omega⟩
  have nz : ¬ (1000000000 : Int64) = 0 := by decide
  intro d
  induction d with
  | zero =>
    intro i q h1 g hd f hN hv
    have e : i = 3 := by omega
    subst e
    have q0 : q = 0 := by
      have e27 : (1000000000 : Nat) ^ 3 = 1000000000000000000000000000 := by decide
      rw [e27] at hv
      omega
    refine zd_go (ok_Na_become hG hl) [] 60 ?_
    conv => whnf
    refine ⟨fun z => ?_, fun z => absurd (by decide) z⟩
    conv => whnf
    refine ⟨⟨_, hN.1⟩, ⟨rfl, Nat.le_of_ble_eq_true rfl, Nat.le_of_ble_eq_true rfl⟩, ?_⟩
    refine c_Na_trim hG hl hN (fun n' h2 c1 c2 c3 c4 c5 => ?_)
    conv => whnf
    refine ⟨hq h2 _ n' (f.tr0 c4) c5 c3 ?_, trivial⟩
    rw [c2, ← hv, q0, Nat.zero_mul, Nat.add_zero]
  | succ d ih =>
    intro i q h1 g hd f hN hv
    have r2 := hN.2.2.2.1
    have qm : q ≤ m := by
      have : q * 1 ≤ q * 1000000000 ^ i := Nat.mul_le_mul_left _ (Nat.pow_pos (by decide))
      omega
    have mR : lR (-(q : Int)) := ⟨by omega, by omega⟩
    have dv : lI (-(q : Int)) / 1000000000 = lI (-((q / 1000000000 : Nat) : Int)) := by
      rw [show (1000000000 : Int64) = lI ((1000000000 : Nat) : Int) from rfl, lI_tdiv mR b1 (by omega), negdiv]
    have rm : (-(lI (-(q : Int)) - lI (-(q : Int)) / 1000000000 * 1000000000)).toInt32 = nI (q % 1000000000) := by
      rw [show (1000000000 : Int64) = lI ((1000000000 : Nat) : Int) from rfl, lI_tmod mR b1 (by omega), negmod, lI_neg, lI_i, Int.neg_neg, ← iI_nI]
    refine zd_go (ok_Na_become hG hl) [21] 60 ?_
    conv => whnf
    refine ⟨fun z => absurd z (nI_ge (b := 3) (by omega) (by omega)), fun z => ?_⟩
    conv => whnf
    refine ⟨_, hN.1, ?_⟩
    conv => whnf
    refine ⟨nz, ?_⟩
    conv => whnf
    refine ⟨_, _, hN.2.1, vp_in_nI (by omega) (by omega), ?_⟩
    rw [rm, nI_clamp (by omega)]
    conv => whnf
    refine ⟨nz, ?_⟩
    conv => whnf
    refine ⟨?_, trivial⟩
    have := ih (i + 1) (q / 1000000000) _ (zu g i (q % 1000000000)) (by omega) (f.set2 (Or.inr rfl)) (hN.put (i := i) (v := q % 1000000000) (Nat.mod_lt _ (by omega))) (by
      rw [zv_succ, zu_s, zv_zu_out (Nat.le_refl _), ← hv, Nat.pow_succ]
      have e := Nat.div_add_mod q 1000000000
      generalize q / 1000000000 = a at *
      generalize q % 1000000000 = b at *
      rw [← e, Nat.add_mul, Nat.mul_comm 1000000000 a, Nat.mul_assoc, Nat.mul_comm (1000000000 ^ i)]
      omega)
    rw [← nI_1 i, ← dv] at this
    exact this
theorem c_Na_become (hG : zd_G B) (hl : l.stackTraces = false) {k R n : Nat} {v : Int} {g : Nat → Nat} (hN : Nt B h k R g n) (hR : 3 ≤ R) (hz : lR v) (hr : Rm h)
    (hq : ∀ h' g' n', Fg B h h' (NS B k) 0 → Nt B h' k R g' n' → (n' = 0 ∨ g' (n' - 1) ≠ 0) → zv 1000000000 g' n' = v.natAbs → Q (.inl none) h') :
    zd_M l B m_Na_become [.ref (zd_b0 B + k), .long (lI v)] h Q := by
  have h12 : ∀ m : Nat, m ≤ 9223372036854775808 → m = v.natAbs → zd_W l B m_Na_become 12 [some (.ref (zd_b0 B + k)), some (.long (lI v)), none, none, none, none] [.long (lI (-(m : Int)))] h Q := by
    intro m hm hmz
    refine zd_go (ok_Na_become hG hl) [21] 60 ?_
    conv => whnf
    refine ⟨⟨_, hN.1⟩, ⟨rfl, Nat.le_of_ble_eq_true rfl, Nat.le_of_ble_eq_true rfl⟩, ?_⟩
    refine c_Na_claim hG hl hN (w := 3) (by omega) hr (fun h1 a1 a2 a3 => ?_) (fun h1 a1 a2 => by omega)
    conv => whnf
    refine ⟨?_, trivial⟩
    exact w_Na_become (h := h) hG hl hR hm (fun h' g' n' c1 c2 c3 c4 => hq h' g' n' c1 c2 c3 (by rw [c4, hmz])) 3 0 m h1 g (by omega) a2 a3 (by simp [zv])
  refine zd_go (ok_Na_become hG hl) [12] 60 ?_
  conv => whnf
  refine ⟨fun z => ?_, fun z => ?_⟩
  · have z' : v ≤ 0 := (lI_le hz ⟨by omega, by omega⟩).mp ((lg_cmp_le (lI v) 0).mp z)
    conv => whnf
    have := h12 v.natAbs (by unfold lR at hz; omega) rfl
    rw [show -((v.natAbs : Nat) : Int) = v by omega] at this
    exact ⟨this, trivial⟩
  · have z' : ¬ v ≤ 0 := fun q => z ((lg_cmp_le (lI v) 0).mpr ((lI_le hz ⟨by omega, by omega⟩).mpr q))
    conv => whnf
    have := h12 v.natAbs (by unfold lR at hz; omega) rfl
    rw [show -((v.natAbs : Nat) : Int) = -v by omega, ← lI_neg] at this
    exact ⟨this, trivial⟩
/-- trailing zeros: the second loop -/
theorem w_Na_tz37 (hG : zd_G B) (hl : l.stackTraces = false) {k R n i : Nat} {g : Nat → Nat} (hN : Nt B h k R g n) (hi : i < n) (hgi : g i ≠ 0)
    (hq : ∀ j, j < 9 → g i % 10 ^ j = 0 → g i % 10 ^ (j + 1) ≠ 0 → Q (.inl (some (.int (nI (9 * i + j))))) h) :
    ∀ (d j : Nat), j + d = 8 → g i % 10 ^ j = 0 → zd_W l B m_Na_trailingZeros 37 [some (.ref (zd_b0 B + k)), some (.int (nI i)), some (.int (nI j))] [] h Q := by
  have r1 := hN.2.2.1
  have r2 := hN.2.2.2.1
  have gl := hN.2.2.2.2 i
  intro d
  induction d with
  | zero =>
    intro j hd hj
    have e : j = 8 := by omega
    subst e
    refine zd_go (ok_Na_trailingZeros hG hl) [] 60 ?_
    conv => whnf
    refine ⟨fun z => ?_, fun z => absurd (by decide) z⟩
    conv => whnf
    refine ⟨rfl, ?_, trivial⟩
    have := hq 8 (by omega) hj (by rw [Nat.mod_eq_of_lt (by omega)]; exact hgi)
    rw [show nI i * 9 + nI 8 = nI (9 * i + 8) by rw [show (9 : Int32) = nI 9 from rfl, pk_mul, nI_add, Nat.mul_comm]]
    exact this
  | succ d ih =>
    intro j hd hj
    have ht := zd_tens_lt (i := j + 1) (by omega)
    have hp0 : 0 < 10 ^ (j + 1) := Nat.pow_pos (by decide)
    refine zd_go (ok_Na_trailingZeros hG hl) [37] 60 ?_
    conv => whnf
    refine ⟨fun z => absurd z (nI_ge (b := 8) (by omega) (by omega)), fun z => ?_⟩
    conv => whnf
    refine ⟨_, hN.1, ?_⟩
    conv => whnf
    refine ⟨_, _, Or.inl hN.2.1, vp_in_nI (by omega) (by omega), ?_⟩
    rw [nI_clamp (by omega)]
    conv => whnf
    refine ⟨10, _, Or.inr hG.2.2.2.2.1, by rw [nI_1]; exact vp_in_nI (by omega) (by omega), ?_⟩
    rw [nI_1, nI_clamp (by omega), show zd_tens (j + 1) = nI (10 ^ (j + 1)) from rfl]
    conv => whnf
    refine ⟨nI_ne0 hp0 ht, ?_⟩
    conv => whnf
    rw [pk_rem (by omega) hp0 ht]
    have hm : g i % 10 ^ (j + 1) < 2 ^ 31 := Nat.lt_of_le_of_lt (Nat.mod_le _ _) (by omega)
    refine ⟨fun z => ?_, fun z => ?_⟩
    · have z' : g i % 10 ^ (j + 1) ≠ 0 := fun e => z (by rw [e]; exact nI_0)
      conv => whnf
      refine ⟨rfl, ?_, trivial⟩
      rw [show nI i * 9 + nI j = nI (9 * i + j) by rw [show (9 : Int32) = nI 9 from rfl, pk_mul, nI_add, Nat.mul_comm]]
      exact hq j (by omega) hj z'
    · have z' : g i % 10 ^ (j + 1) = 0 := (nI_eq hm (by omega)).mp (z.trans nI_0.symm)
      conv => whnf
      refine ⟨?_, trivial⟩
      have := ih (j + 1) (by omega) z'
      rw [← nI_1 j] at this
      exact this
theorem w_Na_tz2 (hG : zd_G B) (hl : l.stackTraces = false) {k R n : Nat} {g : Nat → Nat} (hN : Nt B h k R g n) (hz : g (n - 1) ≠ 0) (hn : 0 < n)
    (hq : ∀ t, zv 1000000000 g n % 10 ^ t = 0 → zv 1000000000 g n % 10 ^ (t + 1) ≠ 0 → Q (.inl (some (.int (nI t)))) h) :
    ∀ (d i : Nat), i + d + 1 = n → (∀ q, q < i → g q = 0) → zd_W l B m_Na_trailingZeros 2 [some (.ref (zd_b0 B + k)), some (.int (nI i)), none] [] h Q := by
  have r1 := hN.2.2.1
  have r2 := hN.2.2.2.1
  have fin : ∀ i, i < n → g i ≠ 0 → (∀ q, q < i → g q = 0) → zd_W l B m_Na_trailingZeros 25 [some (.ref (zd_b0 B + k)), some (.int (nI i)), none] [] h Q := by
    intro i hi hgi hlow
    refine zd_go (ok_Na_trailingZeros hG hl) [37] 60 ?_
    conv => whnf
    refine ⟨_, hN.1, ?_⟩
    conv => whnf
    refine ⟨fun z => ?_, fun z => absurd ((nI_eq (by omega) (by omega)).mp z) (by omega)⟩
    conv => whnf
    refine ⟨?_, trivial⟩
    refine w_Na_tz37 hG hl hN hi hgi (fun j j1 j2 j3 => hq _ ?_ ?_) 8 0 (by omega) (by simp [Nat.mod_one])
    · have := (zv_down (g := g) (n := n) (p := 9 * i + j) (w := i) (r := j) hN.2.2.2.2 rfl j1 hi).2
      by_cases e : zv 1000000000 g n % 10 ^ (9 * i + j) = 0
      · exact e
      · rcases this.mp e with q | ⟨q, q1, q2⟩
        · exact absurd j2 q
        · exact absurd (hlow q q1) q2
    · by_cases e8 : j = 8
      · by_cases en : i + 1 < n
        · have := (zv_down (g := g) (n := n) (p := 9 * i + j + 1) (w := i + 1) (r := 0) hN.2.2.2.2 (by omega) (by omega) en).2
          exact this.mpr (Or.inr ⟨i, by omega, hgi⟩)
        · have hlt := zv_lt10 (g := g) (n := n) hN.2.2.2.2
          rw [Nat.mod_eq_of_lt (by rw [show 9 * i + j + 1 = 9 * n by omega]; exact hlt)]
          exact zv_pos hn (Or.inr hz)
      · have := (zv_down (g := g) (n := n) (p := 9 * i + j + 1) (w := i) (r := j + 1) hN.2.2.2.2 (by omega) (by omega) hi).2
        exact this.mpr (Or.inl j3)
  intro d
  induction d with
  | zero =>
    intro i hd hlow
    have e : i = n - 1 := by omega
    have gl := hN.2.2.2.2 i
    refine zd_go (ok_Na_trailingZeros hG hl) [25] 60 ?_
    conv => whnf
    refine ⟨_, hN.1, ?_⟩
    conv => whnf
    refine ⟨fun z => absurd z (nI_ge (by omega) (by omega)), fun z => ?_⟩
    conv => whnf
    refine ⟨_, hN.1, ?_⟩
    conv => whnf
    refine ⟨_, _, Or.inl hN.2.1, vp_in_nI (by omega) (by omega), ?_⟩
    rw [nI_clamp (by omega)]
    conv => whnf
    refine ⟨fun z => ?_, fun z => absurd ((nI_eq (by omega) (by omega)).mp (z.trans nI_0.symm)) (by rw [e]; exact hz)⟩
    conv => whnf
    exact ⟨fin i (by omega) (by rw [e]; exact hz) hlow, trivial⟩
  | succ d ih =>
    intro i hd hlow
    have gl := hN.2.2.2.2 i
    refine zd_go (ok_Na_trailingZeros hG hl) [25, 2] 60 ?_
    conv => whnf
    refine ⟨_, hN.1, ?_⟩
    conv => whnf
    refine ⟨fun z => absurd z (nI_ge (by omega) (by omega)), fun z => ?_⟩
    conv => whnf
    refine ⟨_, hN.1, ?_⟩
    conv => whnf
    refine ⟨_, _, Or.inl hN.2.1, vp_in_nI (by omega) (by omega), ?_⟩
    rw [nI_clamp (by omega)]
    conv => whnf
    refine ⟨fun z => ?_, fun z => ?_⟩
    · have z' : g i ≠ 0 := fun e => z (by show nI (g i) = 0; rw [e]; exact nI_0)
      conv => whnf
      exact ⟨fin i (by omega) z' hlow, trivial⟩
    · have z' : g i = 0 := (nI_eq (by omega) (by omega)).mp (z.trans nI_0.symm)
      conv => whnf
      refine ⟨?_, trivial⟩
      have := ih (i + 1) (by omega) (fun q hq => by
        by_cases e : q = i
        · rw [e]; exact z'
        · exact hlow q (by omega))
      rw [← nI_1 i] at this
      exact this
theorem c_Na_trailingZeros (hG : zd_G B) (hl : l.stackTraces = false) {k R n : Nat} {g : Nat → Nat} (hN : Nt B h k R g n) (hn : 0 < n) (hz : n = 0 ∨ g (n - 1) ≠ 0)
    (hq : ∀ t, zv 1000000000 g n % 10 ^ t = 0 → zv 1000000000 g n % 10 ^ (t + 1) ≠ 0 → Q (.inl (some (.int (nI t)))) h) : zd_M l B m_Na_trailingZeros [.ref (zd_b0 B + k)] h Q := by
  have hz' : g (n - 1) ≠ 0 := by rcases hz with e | e; omega; exact e
  refine zd_go (ok_Na_trailingZeros hG hl) [2] 60 ?_
  conv => whnf
  refine ⟨?_, trivial⟩
  exact w_Na_tz2 hG hl hN hz' hn hq (n - 1) 0 (by omega) (fun q hq => by omega)
end NJ

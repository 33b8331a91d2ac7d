/-! Natural: becomeProduct -/
section NP
variable {l : Launch} {B : zd_B} {h : zd_H} {Q : zd_O → zd_H → Prop}
/-- the inner loop: one limb of a times all of b -/
theorem w_Na_prod61 (hG : zd_G B) (hl : l.stackTraces = false) {k R N ja Ra na jb Rb nb i : Nat} {ga gb go : Nat → Nat} (hka : k ≠ ja) (hkb : k ≠ jb) (hi : i < na) (hN' : na + nb = N)
    (kk : ∀ h' g', Fg B h h' (NS B k) 0 → Nt B h' k R g' N → Nt B h' ja Ra ga na → Nt B h' jb Rb gb nb → zv 1000000000 g' N = zv 1000000000 go N + ga i * zv 1000000000 gb nb * 1000000000 ^ i → (∀ q, i + nb < q → g' q = go q) → ∀ w1 w2 w3 w4 : Option Value, zd_W l B m_Na_becomeProduct 38 [some (.ref (zd_b0 B + k)), some (.ref (zd_b0 B + ja)), some (.ref (zd_b0 B + jb)), some (.int (nI (i + 1))), w1, none, w2, none, w3, w4, none] [] h' Q) (hgo : go (i + nb) = 0) :
    ∀ (d j : Nat) (h1 : zd_H) (g : Nat → Nat) (c : Nat) (w : Option Value), j + d = nb → Fg B h h1 (NS B k) 0 → Nt B h1 k R g N → Nt B h1 ja Ra ga na → Nt B h1 jb Rb gb nb → c < 1000000000 → (∀ q, i + j ≤ q → g q = go q) → zv 1000000000 g N + c * 1000000000 ^ (i + j) = zv 1000000000 go N + ga i * zv 1000000000 gb j * 1000000000 ^ i →
      zd_W l B m_Na_becomeProduct 61 [some (.ref (zd_b0 B + k)), some (.ref (zd_b0 B + ja)), some (.ref (zd_b0 B + jb)), some (.int (nI i)), some (.long (lN (ga i))), none, some (.long (lN c)), none, some (.int (nI j)), w, none] [] h1 Q := by
  intro d
  induction d with
  | zero =>
    intro j h1 g c w hd f hN hA hJ hc hj hv
    have hjn : j = nb := by omega
    subst hjn
    have r1 := hN.2.2.1
    have r2 := hN.2.2.2.1
    have r4 := hJ.2.2.2.1
    have r3 := hJ.2.2.1
    refine zd_go (ok_Na_becomeProduct hG hl) [38] 60 ?_
    conv => whnf
    refine ⟨_, hJ.1, ?_⟩
    conv => whnf
    refine ⟨fun z => ?_, fun z => absurd (Int32.le_refl _) z⟩
    conv => whnf
    refine ⟨_, hN.1, ?_⟩
    conv => whnf
    refine ⟨_, hJ.1, ?_⟩
    conv => whnf
    refine ⟨R, _, hN.2.1, by rw [nI_add]; exact vp_in_nI (by omega) (by omega), ?_⟩
    rw [nI_add, nI_clamp (by omega), lN_i]
    conv => whnf
    refine ⟨?_, trivial⟩
    have hg0 : g (i + j) = 0 := (hj (i + j) (Nat.le_refl _)).trans hgo
    have := kk _ (zu g (i + j) c) (f.set2 (Or.inr rfl)) (hN.put hc) (hA.kept (Fg.set (S := NS B k) (Or.inr rfl)) (hN.apart hA hka).1 (hN.apart hA hka).2) (hJ.kept (Fg.set (S := NS B k) (Or.inr rfl)) (hN.apart hJ hkb).1 (hN.apart hJ hkb).2) (by
      have e := zv_zu (b := 1000000000) (g := g) (n := N) (k := i + j) (v := c) (by omega)
      rw [hg0] at e
      omega) (fun q hq => by rw [zu_n (by omega)]; exact hj q (by omega)) (some (.long (lN (ga i)))) (some (.long (lN c))) (some (.int (nI j))) w
    rw [← nI_1 i] at this
    exact this
  | succ d ih =>
    intro j h1 g c w hd f hN hA hJ hc hj hv
    have r1 := hN.2.2.1
    have r2 := hN.2.2.2.1
    have r3 := hJ.2.2.1
    have r4 := hJ.2.2.2.1
    have r5 := hA.2.2.2.2 i
    have r6 := hJ.2.2.2.2 j
    have r7 := hN.2.2.2.2 (i + j)
    have hp1 : ga i * gb j ≤ 999999999 * 999999999 := Nat.mul_le_mul (by omega) (by omega)
    refine zd_go (ok_Na_becomeProduct hG hl) [61] 60 ?_
    conv => whnf
    refine ⟨_, hJ.1, ?_⟩
    conv => whnf
    refine ⟨fun z => absurd z (nI_ge (by omega) (by omega)), fun z => ?_⟩
    conv => whnf
    refine ⟨_, hJ.1, ?_⟩
    conv => whnf
    refine ⟨Rb, _, Or.inl hJ.2.1, vp_in_nI (by omega) (by omega), ?_⟩
    rw [nI_clamp (by omega)]
    conv => whnf
    refine ⟨_, hN.1, ?_⟩
    conv => whnf
    refine ⟨R, _, Or.inl hN.2.1, by rw [nI_add]; exact vp_in_nI (by omega) (by omega), ?_⟩
    rw [nI_add, nI_clamp (by omega)]
    have e1 : lN (ga i) * (nI (gb j)).toInt64 + (nI (g (i + j))).toInt64 + lN c = lN (ga i * gb j + g (i + j) + c) := by rw [nI_l (by omega), nI_l (by omega), lN_mul, lN_add, lN_add]
    have e2 : lN (ga i * gb j + g (i + j) + c) / 1000000000 = lN ((ga i * gb j + g (i + j) + c) / 1000000000) := pk_lDiv (b := 1000000000) (by omega) (by omega) (by omega)
    conv => whnf
    refine ⟨by decide, ?_⟩
    rw [e1, e2]
    conv => whnf
    refine ⟨_, hN.1, ?_⟩
    conv => whnf
    refine ⟨R, _, hN.2.1, by rw [nI_add]; exact vp_in_nI (by omega) (by omega), ?_⟩
    have e3 : lN (ga i * gb j + g (i + j) + c) - lN ((ga i * gb j + g (i + j) + c) / 1000000000) * 1000000000 = lN ((ga i * gb j + g (i + j) + c) % 1000000000) := by
      rw [show (1000000000 : Int64) = lN 1000000000 from rfl, lN_mul, lN_sub (by omega)]
      congr 1
      omega
    rw [nI_add, nI_clamp (by omega), e3, lN_i]
    conv => whnf
    refine ⟨?_, trivial⟩
    have hm : (ga i * gb j + g (i + j) + c) % 1000000000 < 1000000000 := Nat.mod_lt _ (by decide)
    have hd2 : (ga i * gb j + g (i + j) + c) / 1000000000 < 1000000000 := by omega
    have := ih (j + 1) _ (zu g (i + j) ((ga i * gb j + g (i + j) + c) % 1000000000)) ((ga i * gb j + g (i + j) + c) / 1000000000) (some (.long (lN (ga i * gb j + g (i + j) + c)))) (by omega) (f.set2 (Or.inr rfl)) (hN.put hm) (hA.kept (Fg.set (S := NS B k) (Or.inr rfl)) (hN.apart hA hka).1 (hN.apart hA hka).2) (hJ.kept (Fg.set (S := NS B k) (Or.inr rfl)) (hN.apart hJ hkb).1 (hN.apart hJ hkb).2) hd2 (fun q hq => by rw [zu_n (by omega)]; exact hj q (by omega)) (by
      have e := zv_zu (b := 1000000000) (g := g) (n := N) (k := i + j) (v := (ga i * gb j + g (i + j) + c) % 1000000000) (by omega)
      have e4 := Nat.mod_add_div (ga i * gb j + g (i + j) + c) 1000000000
      rw [zv_succ, show i + (j + 1) = i + j + 1 by omega, Nat.pow_succ]
      have e5 : ((ga i * gb j + g (i + j) + c) % 1000000000 + 1000000000 * ((ga i * gb j + g (i + j) + c) / 1000000000)) * 1000000000 ^ (i + j) = (ga i * gb j + g (i + j) + c) * 1000000000 ^ (i + j) := by rw [e4]
      generalize (ga i * gb j + g (i + j) + c) % 1000000000 = x at *
      generalize (ga i * gb j + g (i + j) + c) / 1000000000 = y at *
      have e6 : ga i * (zv 1000000000 gb j + gb j * 1000000000 ^ j) * 1000000000 ^ i = ga i * zv 1000000000 gb j * 1000000000 ^ i + ga i * gb j * 1000000000 ^ (i + j) := by
        rw [Nat.mul_add, Nat.add_mul, Nat.pow_add, ← Nat.mul_assoc, Nat.mul_assoc (ga i * gb j), Nat.mul_comm (1000000000 ^ j)]
      rw [e6]
      rw [Nat.add_mul, Nat.add_mul, Nat.add_mul] at e5
      generalize 1000000000 ^ (i + j) = P at *
      have e7 : y * (P * 1000000000) = 1000000000 * y * P := by rw [Nat.mul_comm P, ← Nat.mul_assoc, Nat.mul_comm y]
      omega)
    rw [← nI_1 j] at this
    exact this
/-- the outer loop -/
theorem w_Na_prod38 (hG : zd_G B) (hl : l.stackTraces = false) {k R N ja Ra na jb Rb nb : Nat} {ga gb : Nat → Nat} (hka : k ≠ ja) (hkb : k ≠ jb) (hN' : na + nb = N)
    (hq : ∀ h' g' n', Fg B h h' (NS B k) 0 → Nt B h' k R g' n' → (n' = 0 ∨ g' (n' - 1) ≠ 0) → zv 1000000000 g' n' = zv 1000000000 ga na * zv 1000000000 gb nb → n' ≤ N → Q (.inl none) h') :
    ∀ (d i : Nat) (h1 : zd_H) (g : Nat → Nat) (w1 w2 w3 w4 : Option Value), i + d = na → Fg B h h1 (NS B k) 0 → Nt B h1 k R g N → Nt B h1 ja Ra ga na → Nt B h1 jb Rb gb nb → (∀ q, i + nb ≤ q → q < N → g q = 0) → zv 1000000000 g N = zv 1000000000 ga i * zv 1000000000 gb nb →
      zd_W l B m_Na_becomeProduct 38 [some (.ref (zd_b0 B + k)), some (.ref (zd_b0 B + ja)), some (.ref (zd_b0 B + jb)), some (.int (nI i)), w1, none, w2, none, w3, w4, none] [] h1 Q := by
  intro d
  induction d with
  | zero =>
    intro i h1 g w1 w2 w3 w4 hd f hN hA hJ hz hv
    have hi : i = na := by omega
    subst hi
    refine zd_go (ok_Na_becomeProduct hG hl) [] 60 ?_
    conv => whnf
    refine ⟨_, hA.1, ?_⟩
    conv => whnf
    refine ⟨fun z => ?_, fun z => absurd (Int32.le_refl _) z⟩
    conv => whnf
    refine ⟨⟨_, hN.1⟩, ⟨rfl, Nat.zero_le _, Nat.le_of_ble_eq_true rfl⟩, ?_⟩
    refine c_Na_trim hG hl hN (fun n' h2 a1 a2 a3 a4 a5 => ?_)
    conv => whnf
    exact ⟨hq h2 g n' (f.tr0 a4) a5 a3 (by rw [a2, hv]) a1, trivial⟩
  | succ d ih =>
    intro i h1 g w1 w2 w3 w4 hd f hN hA hJ hz hv
    have r3 := hA.2.2.1
    have r4 := hA.2.2.2.1
    have r5 := hA.2.2.2.2 i
    have hgo : g (i + nb) = 0 := hz (i + nb) (Nat.le_refl _) (by omega)
    refine zd_go (ok_Na_becomeProduct hG hl) [38, 61] 60 ?_
    conv => whnf
    refine ⟨_, hA.1, ?_⟩
    conv => whnf
    refine ⟨fun z => absurd z (nI_ge (by omega) (by omega)), fun z => ?_⟩
    conv => whnf
    refine ⟨_, hA.1, ?_⟩
    conv => whnf
    refine ⟨Ra, _, Or.inl hA.2.1, vp_in_nI (by omega) (by omega), ?_⟩
    rw [nI_clamp (by omega)]
    conv => whnf
    refine ⟨?_, trivial⟩
    have := w_Na_prod61 (h := h1) hG hl (k := k) (R := R) (Ra := Ra) (Rb := Rb) (go := g) hka hkb (i := i) (by omega) hN' (fun h2 g2 b1 b2 b3 b4 b5 b6 x1 x2 x3 x4 => ih (i + 1) h2 g2 x1 x2 x3 x4 (by omega) (f.tr0 b1) b2 b3 b4 (fun q hq1 hq2 => by rw [b6 q (by omega)]; exact hz q (by omega) hq2) (by
      rw [b5, hv, zv_succ, Nat.add_mul]
      congr 1
      rw [Nat.mul_assoc, Nat.mul_comm (zv 1000000000 gb nb), ← Nat.mul_assoc])) hgo nb 0 h1 g 0 w4 (by omega) Fg.rf hN hA hJ (by decide) (fun q _ => rfl) (by simp [zv])
    rw [← nI_l (by omega : ga i < 2 ^ 31)] at this
    exact this
/-- the zeros -/
theorem w_Na_prod15 (hG : zd_G B) (hl : l.stackTraces = false) {k R N ja Ra na jb Rb nb : Nat} {ga gb : Nat → Nat} (hka : k ≠ ja) (hkb : k ≠ jb) (hN' : na + nb = N)
    (hq : ∀ h' g' n', Fg B h h' (NS B k) 0 → Nt B h' k R g' n' → (n' = 0 ∨ g' (n' - 1) ≠ 0) → zv 1000000000 g' n' = zv 1000000000 ga na * zv 1000000000 gb nb → n' ≤ N → Q (.inl none) h') :
    ∀ (d i : Nat) (h1 : zd_H) (g : Nat → Nat), i + d = N → Fg B h h1 (NS B k) 0 → Nt B h1 k R g N → Nt B h1 ja Ra ga na → Nt B h1 jb Rb gb nb → (∀ q, q < i → g q = 0) →
      zd_W l B m_Na_becomeProduct 15 [some (.ref (zd_b0 B + k)), some (.ref (zd_b0 B + ja)), some (.ref (zd_b0 B + jb)), some (.int (nI i)), none, none, none, none, none, none, none] [] h1 Q := by
  intro d
  induction d with
  | zero =>
    intro i h1 g hd f hN hA hJ hz
    have hi : i = N := by omega
    subst hi
    refine zd_go (ok_Na_becomeProduct hG hl) [38] 60 ?_
    conv => whnf
    refine ⟨_, hN.1, ?_⟩
    conv => whnf
    refine ⟨fun z => ?_, fun z => absurd (Int32.le_refl _) z⟩
    conv => whnf
    refine ⟨?_, trivial⟩
    exact w_Na_prod38 hG hl hka hkb hN' hq na 0 h1 g none none none none (by omega) f hN hA hJ (fun q _ hq2 => hz q hq2) (by rw [zv_zero (fun q hq2 => hz q hq2)]; simp [zv])
  | succ d ih =>
    intro i h1 g hd f hN hA hJ hz
    have r1 := hN.2.2.1
    have r2 := hN.2.2.2.1
    refine zd_go (ok_Na_becomeProduct hG hl) [15] 60 ?_
    conv => whnf
    refine ⟨_, hN.1, ?_⟩
    conv => whnf
    refine ⟨fun z => absurd z (nI_ge (by omega) (by omega)), fun z => ?_⟩
    conv => whnf
    refine ⟨_, hN.1, ?_⟩
    conv => whnf
    refine ⟨R, _, hN.2.1, vp_in_nI (by omega) (by omega), ?_⟩
    rw [nI_clamp (by omega)]
    conv => whnf
    refine ⟨?_, trivial⟩
    have := ih (i + 1) _ (zu g i 0) (by omega) (f.set2 (Or.inr rfl)) (hN.put (v := 0) (by omega)) (hA.kept (Fg.set (S := NS B k) (Or.inr rfl)) (hN.apart hA hka).1 (hN.apart hA hka).2) (hJ.kept (Fg.set (S := NS B k) (Or.inr rfl)) (hN.apart hJ hkb).1 (hN.apart hJ hkb).2) (fun q hq2 => by
      unfold zu
      split
      · rfl
      · exact hz q (by omega))
    rw [← nI_1 i] at this
    exact this
theorem c_Na_becomeProduct (hG : zd_G B) (hl : l.stackTraces = false) {k R n ja Ra na jb Rb nb : Nat} {g ga gb : Nat → Nat} (hN : Nt B h k R g n) (hA : Nt B h ja Ra ga na) (hJ : Nt B h jb Rb gb nb) (hka : k ≠ ja) (hkb : k ≠ jb) (hr : Rm h) (hs : na + nb ≤ R)
    (hq : ∀ h' g' n', Fg B h h' (NS B k) 0 → Nt B h' k R g' n' → (n' = 0 ∨ g' (n' - 1) ≠ 0) → zv 1000000000 g' n' = zv 1000000000 ga na * zv 1000000000 gb nb → n' ≤ na + nb → Q (.inl none) h') : zd_M l B m_Na_becomeProduct [.ref (zd_b0 B + k), .ref (zd_b0 B + ja), .ref (zd_b0 B + jb)] h Q := by
  have r2 := hN.2.2.2.1
  refine zd_go (ok_Na_becomeProduct hG hl) [15] 60 ?_
  conv => whnf
  refine ⟨_, hA.1, ?_⟩
  conv => whnf
  refine ⟨_, hJ.1, ?_⟩
  conv => whnf
  refine ⟨⟨_, hN.1⟩, ⟨rfl, Nat.zero_le _, Nat.le_of_ble_eq_true rfl⟩, ?_⟩
  rw [nI_add]
  refine c_Na_claim hG hl hN (by omega) hr (fun h1 a1 a2 a3 => ?_) (fun h1 a1 a2 => by omega)
  conv => whnf
  refine ⟨?_, trivial⟩
  exact w_Na_prod15 hG hl hka hkb rfl hq (na + nb) 0 h1 g (by omega) a2 a3 (hA.kept a2 (hN.apart hA hka).1 (hN.apart hA hka).2) (hJ.kept a2 (hN.apart hJ hkb).1 (hN.apart hJ hkb).2) (fun q hq2 => by omega)
end NP

/-! the model: the next figure of a root -/
theorem lead_ex2 (g : Nat → Nat) (n : Nat) : ∃ z, z ≤ n ∧ (∀ i, i < z → g i = 0) ∧ (z = n ∨ g z ≠ 0) := by
  induction n with
  | zero => exact ⟨0, Nat.le_refl _, fun i hi => by omega, Or.inl rfl⟩
  | succ n ih =>
    obtain ⟨z, a, b, c⟩ := ih
    by_cases h : g z = 0
    · rcases c with c | c
      · refine ⟨z + 1, by omega, fun i hi => ?_, Or.inl (by omega)⟩
        by_cases q : i = z
        · rw [q]; exact h
        · exact b i (by omega)
      · exact absurd h c
    · exact ⟨z, by omega, b, Or.inr h⟩
theorem isq_next {N r e p : Nat} (hr : r = isq N) (hp : p < 100) (he : e ≤ 9) (h1 : e * e + 20 * e * r ≤ (N - r * r) * 100 + p) (h2 : e = 9 ∨ (N - r * r) * 100 + p < (e + 1) * (e + 1) + 20 * (e + 1) * r) : isq (N * 100 + p) = r * 10 + e ∧ N * 100 + p - (r * 10 + e) * (r * 10 + e) = (N - r * r) * 100 + p - (e * e + 20 * e * r) := by
  have hs := isq_s N
  rw [← hr] at hs
  obtain ⟨s1, s2⟩ := hs
  have e1 : (r * 10 + e) * (r * 10 + e) = r * r * 100 + (e * e + 20 * e * r) := by
    simp only [Nat.add_mul, Nat.mul_add]
    have : r * 10 * (r * 10) = r * r * 100 := by
      rw [Nat.mul_mul_mul_comm]
    have h3 : r * 10 * e = 10 * (e * r) := by rw [Nat.mul_comm r 10, Nat.mul_assoc, Nat.mul_comm r]
    have h4 : e * (r * 10) = 10 * (e * r) := by rw [← Nat.mul_assoc, Nat.mul_comm]
    have h5 : 20 * e * r = 20 * (e * r) := Nat.mul_assoc _ _ _
    omega
  have e2 : (r * 10 + e + 1) * (r * 10 + e + 1) = r * r * 100 + ((e + 1) * (e + 1) + 20 * (e + 1) * r) := by
    rw [show r * 10 + e + 1 = r * 10 + (e + 1) by omega]
    simp only [Nat.add_mul, Nat.mul_add]
    have : r * 10 * (r * 10) = r * r * 100 := by
      rw [Nat.mul_mul_mul_comm]
    have h3 : r * 10 * e = 10 * (e * r) := by rw [Nat.mul_comm r 10, Nat.mul_assoc, Nat.mul_comm r]
    have h4 : e * (r * 10) = 10 * (e * r) := by rw [← Nat.mul_assoc, Nat.mul_comm]
    have h5 : 20 * e * r = 20 * (e * r) := Nat.mul_assoc _ _ _
    omega
  have s3 : (r + 1) * (r + 1) = r * r + 2 * r + 1 := by
    simp only [Nat.add_mul, Nat.mul_add]
    omega
  constructor
  · refine (isq_s _).un ⟨?_, ?_⟩
    · rw [e1]; omega
    · rw [e2]
      rcases h2 with h2 | h2
      · subst h2
        omega
      · omega
  · rw [e1]
    omega
section KT
variable {l : Launch} {B : zd_B} {Q : Option Value → zst → Prop} {t ln sz : Nat} {sc : Int} {mo be : Bool} {ts us lz pr fa : Nat} {D K Mn : Nat → Nat} {Mi : Nat → Bool} {Sc : Nat → Int} {rw tp un lf pa : Nat → Nat}
theorem w_nr2 (hG : zd_G B) (hl : l.stackTraces = false) {a1 a2 : Int32} {zz : Nat} (hlz : lz ≤ 2200) (hf : ∀ j, j < lz → lf j < 10) (z1 : zz ≤ lz) (z2 : ∀ i, i < zz → lf i = 0) (z3 : zz = lz ∨ lf zz ≠ 0)
    (hq : zm_W l B gM m_Mo_nextRoot 25 [some (.ref 53), some (.int a1), some (.int a2), some (.int (nI zz)), none] [] (mS t ln sz sc mo be ts us lz pr fa D K Mn Mi Sc rw tp un lf pa) Q) :
    ∀ (d i : Nat), i + d = zz → zm_W l B gM m_Mo_nextRoot 2 [some (.ref 53), some (.int a1), some (.int a2), some (.int (nI i)), none] [] (mS t ln sz sc mo be ts us lz pr fa D K Mn Mi Sc rw tp un lf pa) Q := by
  intro d
  induction d with
  | zero =>
    intro i hi
    have e : i = zz := by omega
    subst e
    refine zm_go (okm_Mo_nextRoot hG hl) [25] 200 ?_
    conv => whnf
    by_cases q : lz ≤ i
    · refine ⟨fun _ => ?_, fun z => absurd ((nI_ge0 (by omega) (by omega)).mpr q) z⟩
      refine ⟨?_, trivial⟩
      try dsimp only
      exact hq
    · refine ⟨fun z => absurd ((nI_ge0 (by omega) (by omega)).mp z) q, fun _ => ?_⟩
      conv => whnf
      refine ⟨i, rfl, by omega, ?_⟩
      conv => whnf
      refine ⟨fun _ => ?_, fun z => absurd ((nI_z (by have := hf i (by omega); omega)).mp z) (z3.resolve_left (by omega))⟩
      refine ⟨?_, trivial⟩
      try dsimp only
      exact hq
  | succ d ih =>
    intro i hi
    refine zm_go (okm_Mo_nextRoot hG hl) [2] 200 ?_
    conv => whnf
    refine ⟨fun z => absurd ((nI_ge0 (by omega) (by omega)).mp z) (by omega), fun _ => ?_⟩
    conv => whnf
    refine ⟨i, rfl, by omega, ?_⟩
    conv => whnf
    refine ⟨fun z => absurd ((nI_z (by have := hf i (by omega); omega)).mpr (z2 i (by omega))) z, fun _ => ?_⟩
    conv => whnf
    refine ⟨?_, trivial⟩
    try dsimp only
    rw [nI_1]
    exact ih (i + 1) (by omega)
theorem w_nr28 (hG : zd_G B) (hl : l.stackTraces = false) {a1 a2 : Int32} {zz : Nat} (hlz : lz ≤ 2200) (z1 : zz ≤ lz)
    (hq : ∀ g', (∀ j, j < lz - zz → g' j = lf (j + zz)) → zm_W l B gM m_Mo_nextRoot 61 [some (.ref 53), some (.int a1), some (.int a2), some (.int (nI zz)), some (.int (nI (lz - zz)))] [] (mS t ln sz sc mo be ts us lz pr fa D K Mn Mi Sc rw tp un (g') pa) Q) :
    ∀ (d i : Nat) (g : Nat → Nat), i + d = lz - zz → (∀ j, j < i → g j = lf (j + zz)) → (∀ j, i ≤ j → g j = lf j) → zm_W l B gM m_Mo_nextRoot 28 [some (.ref 53), some (.int a1), some (.int a2), some (.int (nI zz)), some (.int (nI i))] [] (mS t ln sz sc mo be ts us lz pr fa D K Mn Mi Sc rw tp un (g) pa) Q := by
  intro d
  induction d with
  | zero =>
    intro i g hi h1 h2
    have e : i = lz - zz := by omega
    subst e
    refine zm_go (okm_Mo_nextRoot hG hl) [61] 200 ?_
    conv => whnf
    rw [nI_add]
    refine ⟨fun _ => ?_, fun z => absurd ((nI_ge0 (by omega) (by omega)).mpr (by omega)) z⟩
    refine ⟨?_, trivial⟩
    try dsimp only
    exact hq g h1
  | succ d ih =>
    intro i g hi h1 h2
    refine zm_go (okm_Mo_nextRoot hG hl) [28] 200 ?_
    conv => whnf
    rw [nI_add]
    refine ⟨fun z => absurd ((nI_ge0 (by omega) (by omega)).mp z) (by omega), fun _ => ?_⟩
    conv => whnf
    refine ⟨(i + zz), nI_add _ _, by omega, ?_⟩
    conv => whnf
    refine ⟨i, rfl, by omega, ?_⟩
    conv => whnf
    refine ⟨?_, trivial⟩
    try dsimp only
    rw [nI_1]
    rw [upd_nI]
    refine ih (i + 1) _ (by omega) (fun j hj => ?_) (fun j hj => ?_)
    · by_cases q : j = i
      · rw [q, zu_s, h2 (i + zz) (by omega)]
      · rw [zu_n q]; exact h1 j (by omega)
    · rw [zu_n (by omega)]; exact h2 j (by omega)
theorem w_nr107 (hG : zd_G B) (hl : l.stackTraces = false) {a1 a2 a3 : Int32} (hs : sz ≤ 1999) (hlz : lz ≤ 2200) (hlz1 : 1 ≤ lz) (hd : ∀ i, rw i < 10) (hf : ∀ j, j < lz → lf j < 10) (htop : sz = 0 ∨ 10 ^ (sz - 1) ≤ tv rw sz)
    (hq : ∀ e us' u' f', e ≤ 9 → (e = 9 ∨ tv lf lz < (e + 1) * (e + 1) + 20 * (e + 1) * tv rw sz) → e * e + 20 * e * tv rw sz ≤ tv lf lz → (∀ j, j < lz → f' j < 10) → tv f' lz = tv lf lz - (e * e + 20 * e * tv rw sz) → Q none (mS t ln (sz + 1) sc mo be ts (us') lz pr fa D K Mn Mi Sc (zu rw sz e) tp (u') (f') pa)) :
    ∀ (e : Nat) (us : Nat) (un : Nat → Nat), e ≤ 9 → (e = 9 ∨ tv lf lz < (e + 1) * (e + 1) + 20 * (e + 1) * tv rw sz) → zm_W l B gM m_Mo_nextRoot 107 [some (.ref 53), some (.int a1), some (.int a2), some (.int a3), some (.int (nI e))] [] (mS t ln sz sc mo be ts us lz pr fa D K Mn Mi Sc rw tp un lf pa) Q := by
  intro e
  induction e with
  | zero =>
    intro us un he h1
    refine zm_go (okm_Mo_nextRoot hG hl) [] 200 ?_
    conv => whnf
    refine k_takesRoot hG hl (by omega) (by omega) hlz hlz1 hd hf htop (fun us' u' h => ?_) (fun us' u' f' h c1 c2 => ?_)
    · exact absurd h (by simp)
    · conv => whnf
      refine ⟨fun _ => ?_, fun z => absurd z (by decide)⟩
      conv => whnf
      refine ⟨sz, rfl, by omega, ?_⟩
      conv => whnf
      rw [nI_1]
      rw [upd_nI]
      exact ⟨hq 0 us' u' f' (by omega) h1 h c1 c2, trivial⟩
  | succ e ih =>
    intro us un he h1
    refine zm_go (okm_Mo_nextRoot hG hl) [107] 200 ?_
    conv => whnf
    refine k_takesRoot hG hl he (by omega) hlz hlz1 hd hf htop (fun us' u' h => ?_) (fun us' u' f' h c1 c2 => ?_)
    · conv => whnf
      refine ⟨fun z => absurd rfl z, fun _ => ?_⟩
      conv => whnf
      refine ⟨?_, trivial⟩
      try dsimp only
      rw [nI_m1 (by omega), Nat.add_sub_cancel]
      exact ih us' u' (by omega) (Or.inr h)
    · conv => whnf
      refine ⟨fun _ => ?_, fun z => absurd z (by decide)⟩
      conv => whnf
      refine ⟨sz, rfl, by omega, ?_⟩
      conv => whnf
      rw [nI_1]
      rw [upd_nI]
      exact ⟨hq (e + 1) us' u' f' he h1 h c1 c2, trivial⟩
theorem k_nextRoot (hG : zd_G B) (hl : l.stackTraces = false) {N one two : Nat} (h1 : one < 10) (h2 : two < 10) (hs : sz ≤ 1999) (hlz : lz ≤ 2200) (hd : ∀ i, rw i < 10) (hf : ∀ j, j < lz → lf j < 10) (htop : sz = 0 ∨ 10 ^ (sz - 1) ≤ tv rw sz) (hr : tv rw sz = isq N) (hL : tv lf lz = N - isq N * isq N)
    (hq : ∀ e us' u' f' lz', e < 10 → isq (N * 100 + (one * 10 + two)) = isq N * 10 + e → lz' ≤ sz + 3 → (∀ j, j < lz' → f' j < 10) → tv f' lz' = N * 100 + (one * 10 + two) - isq (N * 100 + (one * 10 + two)) * isq (N * 100 + (one * 10 + two)) → Q none (mS t ln (sz + 1) sc mo be ts (us') (lz') pr fa D K Mn Mi Sc (zu rw sz e) tp (u') (f') pa)) : zm_M l B gM m_Mo_nextRoot [.ref 53, .int (nI one), .int (nI two)] (mS t ln sz sc mo be ts us lz pr fa D K Mn Mi Sc rw tp un lf pa) Q := by
  obtain ⟨zz, z1, z2, z3⟩ := lead_ex2 lf lz
  have hsq := isq_s N
  have hlen : lz - zz ≤ sz + 1 := by
    rcases z3 with z3 | z3
    · omega
    · by_cases e : lz - zz = 0
      · omega
      · have a := tv_drop (g := lf) z1 z2
        have b := tv_dg (g := fun i => lf (zz + i)) (n := lz - zz) (by omega) (fun i hi => hf _ (by omega)) (by rw [Nat.add_zero]; exact z3)
        rw [a, hL] at b
        rw [← b]
        have c : N - isq N * isq N < 10 ^ (sz + 1) := by
          have d := tv_lt (g := rw) (n := sz) (fun i _ => hd i)
          rw [hr] at d
          have e3 : (isq N + 1) * (isq N + 1) = isq N * isq N + 2 * isq N + 1 := by
            simp only [Nat.add_mul, Nat.mul_add]
            omega
          have := hsq.2
          rw [e3] at this
          rw [Nat.pow_succ]
          omega
        exact dgle (by omega) c
  refine zm_go (okm_Mo_nextRoot hG hl) [2] 200 ?_
  conv => whnf
  refine ⟨?_, trivial⟩
  try dsimp only
  refine w_nr2 hG hl hlz hf z1 z2 z3 ?_ zz 0 (by omega)
  refine zm_go (okm_Mo_nextRoot hG hl) [28] 200 ?_
  conv => whnf
  refine ⟨?_, trivial⟩
  try dsimp only
  refine w_nr28 hG hl hlz z1 (fun g' b1 => ?_) (lz - zz) 0 lf (by omega) (fun j hj => by omega) (fun j _ => rfl)
  have hv : tv (zu (zu g' (lz - zz) one) (lz - zz + 1) two) (lz - zz + 2) = (N - isq N * isq N) * 100 + (one * 10 + two) := by
    show tv (zu (zu g' (lz - zz) one) (lz - zz + 1) two) (lz - zz + 1 + 1) = _
    rw [tv_ext, tv_ext, ← hL, ← tv_drop z1 z2, tv_congr (g := g') (g' := fun i => lf (zz + i)) (fun i hi => by rw [b1 i hi, Nat.add_comm])]
    omega
  have hdig : ∀ j, j < lz - zz + 2 → zu (zu g' (lz - zz) one) (lz - zz + 1) two j < 10 := fun j hj => by
    by_cases q1 : j = lz - zz + 1
    · rw [q1, zu_s]; exact h2
    · rw [zu_n q1]
      by_cases q2 : j = lz - zz
      · rw [q2, zu_s]; exact h1
      · rw [zu_n q2, b1 j (by omega)]; exact hf _ (by omega)
  refine zm_go (okm_Mo_nextRoot hG hl) [107] 200 ?_
  conv => whnf
  rw [nI_sub z1]
  refine ⟨(lz - zz), rfl, by omega, ?_⟩
  conv => whnf
  refine ⟨(lz - zz + 1), nI_1 _, by omega, ?_⟩
  conv => whnf
  refine ⟨?_, trivial⟩
  try dsimp only
  rw [upd_nI, upd_nI, show nI (lz - zz) + 2 = nI (lz - zz + 2) from nI_add _ 2]
  refine w_nr107 (lz := lz - zz + 2) (lf := zu (zu g' (lz - zz) one) (lz - zz + 1) two) hG hl hs (by omega) (by omega) hd hdig htop (fun e us' u' f' c0 c1 c2 c3 c4 => ?_) 9 _ _ (by omega) (Or.inl rfl)
  rw [hv, hr] at c1 c2 c4
  obtain ⟨q1, q2⟩ := isq_next (N := N) (r := isq N) (e := e) (p := one * 10 + two) rfl (by omega) c0 c2 c1
  exact hq e us' u' f' _ (by omega) q1 (by omega) c3 (by rw [c4, q1, q2])
end KT

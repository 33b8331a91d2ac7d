/-! the model: times, multiply, power -/
section KL
variable {l : Launch} {B : zd_B} {Q : Option Value → zst → Prop} {t ln sz : Nat} {sc : Int} {mo be : Bool} {ts us lz pr fa : Nat} {D K Mn : Nat → Nat} {Mi : Nat → Bool} {Sc : Nat → Int} {rw tp un lf pa : Nat → Nat}
/-- from the place i on -/
theorem tv_tail (g : Nat → Nat) (i n : Nat) (h : i < n) : tv (fun j => g (i + j)) (n - i) = g i * 10 ^ (n - i - 1) + tv (fun j => g (i + 1 + j)) (n - (i + 1)) := by
  have e := tv_split (fun j => g (i + j)) 1 (n - (i + 1))
  rw [show 1 + (n - (i + 1)) = n - i by omega] at e
  rw [e, show n - i - 1 = n - (i + 1) by omega]
  congr 1
  · show (0 * 10 + g (i + 0)) * _ = _
    rw [Nat.zero_mul, Nat.zero_add, Nat.add_zero]
  · exact tv_congr (fun j _ => by rw [Nat.add_assoc])
theorem w_times1 (hG : zd_G B) (hl : l.stackTraces = false) {r n : Nat} {x4 x5 x6 : Option Value} (hn : n ≤ 4400)
    (hq : ∀ g', (∀ j, j < n → g' j = 0) → zm_W l B gM m_Mo_times 32 [some (.ref 53), some (.int (nI r)), some (.int (nI n)), some (.int (nI n)), x4, x5, x6] [] (mS t ln sz sc mo be ts us lz pr fa D K Mn Mi Sc rw (g') un lf pa) Q) :
    ∀ (d i : Nat) (g : Nat → Nat), i + d = n → (∀ j, j < i → g j = 0) → zm_W l B gM m_Mo_times 14 [some (.ref 53), some (.int (nI r)), some (.int (nI n)), some (.int (nI i)), x4, x5, x6] [] (mS t ln sz sc mo be ts us lz pr fa D K Mn Mi Sc rw (g) un lf pa) Q := by
  intro d
  induction d with
  | zero =>
    intro i g hi h1
    have e : i = n := by omega
    subst e
    refine zm_go (okm_Mo_times hG hl) [32] 200 ?_
    conv => whnf
    refine ⟨fun z => ?_, fun z => absurd (Int32.le_refl _) z⟩
    refine ⟨?_, trivial⟩
    try dsimp only
    exact hq g h1
  | succ d ih =>
    intro i g hi h1
    refine zm_go (okm_Mo_times hG hl) [14] 200 ?_
    conv => whnf
    refine ⟨fun z => absurd ((nI_ge0 (by omega) (by omega)).mp z) (by omega), fun _ => ?_⟩
    conv => whnf
    refine ⟨i, rfl, by omega, ?_⟩
    conv => whnf
    refine ⟨?_, trivial⟩
    try dsimp only
    rw [nI_1, show (0 : Int32) = nI 0 from rfl]
    rw [upd_nI]
    refine ih (i + 1) _ (by omega) (fun j hj => ?_)
    by_cases q : j = i
    · rw [q, zu_s]
    · rw [zu_n q]; exact h1 j (by omega)
theorem zu_ltn {g : Nat → Nat} {n k v b : Nat} (h : ∀ j, j < n → g j < b) (hv : v < b) : ∀ j, j < n → zu g k v j < b := fun j hj => by
  unfold zu
  split
  · exact hv
  · exact h j hj
/-- one row of the product: w are the other factor's digits -/
theorem w_times3 (hG : zd_G B) (hl : l.stackTraces = false) {r n i nw : Nat} {w : Nat → Nat} (hr : r < 10) (hn : n = sz + nw) (hs : sz ≤ 2200) (hw2 : nw ≤ 1000) (hi : i < sz) (hd : ∀ j, rw j < 10) (hw : ∀ j, j < nw → K (1000 * r + j) = w j) (hwd : ∀ j, w j < 10) {g0 : Nat → Nat}
    (hq : ∀ g' c a (x6 : Option Value), c < 10 → (∀ j, j < n → g' j < 10) → (∀ j, j ≤ i → g' j = g0 j) → tv g' n + c * 10 ^ (n - 1 - i) = tv g0 n + rw i * tv w nw * 10 ^ (sz - 1 - i) → zm_W l B gM m_Mo_times 127 [some (.ref 53), some (.int (nI r)), some (.int (nI n)), some (.int (nI i)), some (.int (nI c)), some (.int a), x6] [] (mS t ln sz sc mo be ts us lz pr fa D K Mn Mi Sc rw (g') un lf pa) Q) :
    ∀ (jj : Nat) (g : Nat → Nat) (c : Nat) (x6 : Option Value), jj ≤ nw → c < 10 → (∀ j, j < n → g j < 10) → (∀ j, j ≤ i + jj → g j = g0 j) → tv g n + c * 10 ^ (n - 1 - (i + jj)) = tv g0 n + rw i * tv (fun j => w (jj + j)) (nw - jj) * 10 ^ (sz - 1 - i) → zm_W l B gM m_Mo_times 56 [some (.ref 53), some (.int (nI r)), some (.int (nI n)), some (.int (nI i)), some (.int (nI c)), some (.int (iI ((jj : Int) - 1))), x6] [] (mS t ln sz sc mo be ts us lz pr fa D K Mn Mi Sc rw (g) un lf pa) Q := by
  intro jj
  induction jj with
  | zero =>
    intro g c x6 hjj hc hg h0 hv
    refine zm_go (okm_Mo_times hG hl) [127] 200 ?_
    conv => whnf
    refine ⟨fun _ => ?_, fun z => absurd (by decide) z⟩
    refine ⟨?_, trivial⟩
    try dsimp only
    refine hq g c _ _ hc hg h0 ?_
    rw [Nat.add_zero] at hv
    rw [hv, Nat.sub_zero, tv_congr (g := fun j => w (0 + j)) (g' := w) (fun j _ => by rw [Nat.zero_add])]
  | succ jj ih =>
    intro g c x6 hjj hc hg h0 hv
    have ei : iI (((jj + 1 : Nat) : Int) - 1) = nI jj := by rw [iI_nI]; congr 1; omega
    rw [ei]
    have e1 := hw jj (by omega)
    have d1 := hg (i + jj + 1) (by omega)
    have d2 := hd i
    have d3 := hwd jj
    have hpr : rw i * w jj ≤ 81 := by
      have : rw i * w jj ≤ 9 * 9 := Nat.mul_le_mul (by omega) (by omega)
      omega
    refine zm_go (okm_Mo_times hG hl) [56] 200 ?_
    conv => whnf
    refine ⟨fun z => absurd z (nI_pos (by omega)), fun _ => ?_⟩
    conv => whnf
    refine ⟨(i + jj + 1), by rw [nI_add, nI_1], by omega, ?_⟩
    conv => whnf
    refine ⟨i, rfl, by omega, ?_⟩
    conv => whnf
    refine ⟨(1000 * r + jj), by rw [← nI_add, ← lmul]; rfl, by omega, ?_⟩
    conv => whnf
    dsimp only
    rw [e1, lmul, nI_add, nI_add]
    refine ⟨by decide, ?_⟩
    conv => whnf
    refine ⟨(i + jj + 1), by rw [nI_add, nI_1], by omega, ?_⟩
    conv => whnf
    refine ⟨by decide, ?_⟩
    conv => whnf
    refine ⟨?_, trivial⟩
    try dsimp only
    rw [show (10 : Int32) = nI 10 from rfl, nI_rm (by omega) (by decide) (by decide), nI_dv (by omega) (by decide) (by decide), iI_nI jj, iI_m1]
    rw [upd_nI]
    generalize hX : g (i + jj + 1) + rw i * w jj + c = X at *
    have hX99 : X ≤ 99 := by omega
    refine ih _ (X / 10) _ (by omega) (by omega) (zu_ltn hg (by omega)) (fun j hj => by rw [zu_n (by omega)]; exact h0 j (by omega)) ?_
    have hzu := tv_zu (g := g) (n := n) (k := i + jj + 1) (v := X % 10) (by omega)
    have hp1 : 10 ^ (n - 1 - (i + jj)) = 10 ^ (n - 1 - (i + jj + 1)) * 10 := by rw [← Nat.pow_succ]; congr 1; omega
    have ht := tv_tail w jj nw (by omega)
    rw [ht, Nat.mul_add, Nat.add_mul, show n - 1 - (i + (jj + 1)) = n - 1 - (i + jj + 1) by omega] at *
    have hp2 : rw i * (w jj * 10 ^ (nw - jj - 1)) * 10 ^ (sz - 1 - i) = rw i * w jj * 10 ^ (n - 1 - (i + jj + 1)) := by
      rw [← Nat.mul_assoc, Nat.mul_assoc, ← Nat.pow_add]
      congr 2
      omega
    rw [hp2, hp1]
    have hX2 : X = X / 10 * 10 + X % 10 := by omega
    have hX3 : X * 10 ^ (n - 1 - (i + jj + 1)) = g (i + jj + 1) * 10 ^ (n - 1 - (i + jj + 1)) + rw i * w jj * 10 ^ (n - 1 - (i + jj + 1)) + c * 10 ^ (n - 1 - (i + jj + 1)) := by
      rw [← hX, Nat.add_mul, Nat.add_mul]
    have hX4 : X * 10 ^ (n - 1 - (i + jj + 1)) = X / 10 * (10 ^ (n - 1 - (i + jj + 1)) * 10) + X % 10 * 10 ^ (n - 1 - (i + jj + 1)) := by
      conv => lhs; rw [hX2]
      rw [Nat.add_mul, Nat.mul_assoc, Nat.mul_comm 10]
    omega
/-- all rows of it -/
theorem w_times2 (hG : zd_G B) (hl : l.stackTraces = false) {r n nw : Nat} {w : Nat → Nat} (hr : r < 10) (hn : n = sz + nw) (hs : sz ≤ 2200) (hw1 : 1 ≤ nw) (hw2 : nw ≤ 1000) (hd : ∀ j, rw j < 10) (hmn : Mn r = nw) (hw : ∀ j, j < nw → K (1000 * r + j) = w j) (hwd : ∀ j, w j < 10)
    (hq : ∀ g' a (x4 x5 x6 : Option Value), (∀ j, j < n → g' j < 10) → tv g' n = tv rw sz * tv w nw → zm_W l B gM m_Mo_times 148 [some (.ref 53), some (.int (nI r)), some (.int (nI n)), some (.int a), x4, x5, x6] [] (mS t ln sz sc mo be ts us lz pr fa D K Mn Mi Sc rw (g') un lf pa) Q) :
    ∀ (i : Nat) (g : Nat → Nat) (x4 x5 x6 : Option Value), i ≤ sz → (∀ j, j < n → g j < 10) → (∀ j, j < i → g j = 0) → tv g n = tv (fun j => rw (i + j)) (sz - i) * tv w nw → zm_W l B gM m_Mo_times 39 [some (.ref 53), some (.int (nI r)), some (.int (nI n)), some (.int (iI ((i : Int) - 1))), x4, x5, x6] [] (mS t ln sz sc mo be ts us lz pr fa D K Mn Mi Sc rw (g) un lf pa) Q := by
  intro i
  induction i with
  | zero =>
    intro g x4 x5 x6 hi hg h0 hv
    refine zm_go (okm_Mo_times hG hl) [148] 200 ?_
    conv => whnf
    refine ⟨fun _ => ?_, fun z => absurd (by decide) z⟩
    refine ⟨?_, trivial⟩
    try dsimp only
    refine hq g _ _ _ _ hg ?_
    rw [hv, Nat.sub_zero, tv_congr (g := fun j => rw (0 + j)) (g' := rw) (fun j _ => by rw [Nat.zero_add])]
  | succ i ih =>
    intro g x4 x5 x6 hi hg h0 hv
    have ei : iI (((i + 1 : Nat) : Int) - 1) = nI i := by rw [iI_nI]; congr 1; omega
    rw [ei]
    refine zm_go (okm_Mo_times hG hl) [56] 200 ?_
    conv => whnf
    refine ⟨fun z => absurd z (nI_pos (by omega)), fun _ => ?_⟩
    conv => whnf
    refine ⟨r, rfl, by omega, ?_⟩
    conv => whnf
    refine ⟨?_, trivial⟩
    try dsimp only
    rw [hmn, show nI nw - 1 = iI ((nw : Int) - 1) by rw [iI_nI]; exact iI_sub _ 1, show (0 : Int32) = nI 0 from rfl]
    refine w_times3 (g0 := g) (nw := nw) (w := w) hG hl hr hn hs hw2 (by omega) hd hw hwd (fun g' c a x6 q1 q2 q3 q4 => ?_) nw g 0 _ (Nat.le_refl _) (by decide) hg (fun j _ => rfl) (by rw [Nat.sub_self]; show tv g n + 0 * _ = tv g n + rw i * 0 * _; omega)
    have gi : g' i = 0 := by rw [q3 i (Nat.le_refl _)]; exact h0 i (by omega)
    refine zm_go (okm_Mo_times hG hl) [39] 200 ?_
    conv => whnf
    refine ⟨i, rfl, by omega, ?_⟩
    conv => whnf
    refine ⟨i, rfl, by omega, ?_⟩
    conv => whnf
    refine ⟨?_, trivial⟩
    try dsimp only
    rw [gi, nI_add, Nat.zero_add, iI_nI i, iI_m1]
    rw [upd_nI]
    refine ih _ _ _ _ (by omega) (zu_ltn q2 q1) (fun j hj => by rw [zu_n (by omega), q3 j (by omega)]; exact h0 j (by omega)) ?_
    have hzu := tv_zu (g := g') (n := n) (k := i) (v := c) (by omega)
    rw [gi, Nat.zero_mul, Nat.add_zero] at hzu
    rw [tv_tail rw i sz (by omega), Nat.add_mul, hzu, q4, hv, show sz - i - 1 = sz - 1 - i by omega, Nat.mul_right_comm (rw i) (tv w nw)]
    omega
theorem w_times4 (hG : zd_G B) (hl : l.stackTraces = false) {r n : Nat} {x4 x5 x6 : Option Value} (hn : n ≤ 4400)
    (hq : ∀ g', (∀ j, j < n → g' j = tp j) → (∀ j, n ≤ j → g' j = rw j) → zm_W l B gM m_Mo_times 178 [some (.ref 53), some (.int (nI r)), some (.int (nI n)), some (.int (nI n)), x4, x5, x6] [] (mS t ln sz sc mo be ts us lz pr fa D K Mn Mi Sc (g') tp un lf pa) Q) :
    ∀ (d i : Nat) (g : Nat → Nat), i + d = n → (∀ j, j < i → g j = tp j) → (∀ j, i ≤ j → g j = rw j) → zm_W l B gM m_Mo_times 155 [some (.ref 53), some (.int (nI r)), some (.int (nI n)), some (.int (nI i)), x4, x5, x6] [] (mS t ln sz sc mo be ts us lz pr fa D K Mn Mi Sc (g) tp un lf pa) Q := by
  intro d
  induction d with
  | zero =>
    intro i g hi h1 h2
    have e : i = n := by omega
    subst e
    refine zm_go (okm_Mo_times hG hl) [178] 200 ?_
    conv => whnf
    refine ⟨fun z => ?_, fun z => absurd (Int32.le_refl _) z⟩
    refine ⟨?_, trivial⟩
    try dsimp only
    exact hq g h1 h2
  | succ d ih =>
    intro i g hi h1 h2
    refine zm_go (okm_Mo_times hG hl) [155] 200 ?_
    conv => whnf
    refine ⟨fun z => absurd ((nI_ge0 (by omega) (by omega)).mp z) (by omega), fun _ => ?_⟩
    conv => whnf
    refine ⟨i, rfl, by omega, ?_⟩
    conv => whnf
    refine ⟨i, rfl, by omega, ?_⟩
    conv => whnf
    refine ⟨?_, trivial⟩
    try dsimp only
    rw [nI_1]
    rw [upd_nI]
    refine ih (i + 1) _ (by omega) (fun j hj => ?_) (fun j hj => ?_)
    · by_cases q : j = i
      · rw [q, zu_s]
      · rw [zu_n q]; exact h1 j (by omega)
    · rw [zu_n (by omega)]; exact h2 j (by omega)
theorem k_times (hG : zd_G B) (hl : l.stackTraces = false) {R : Nat → zr} (hR : ROk R) (hM : MR R K Mn Mi Sc) {r : Nat} (hr : r < 10) (hs : sz ≤ 2200) (hd : ∀ i, rw i < 10) (hsc : -100000000 < sc ∧ sc < 100000000)
    (hq : ∀ g' tp', (∀ i, g' i < 10) → tv g' (dg (tv rw sz * (R r).2.1)) = tv rw sz * (R r).2.1 → Q (some (.int (bI (decide (dg (tv rw sz * (R r).2.1) ≤ 1000))))) (mS t ln (dg (tv rw sz * (R r).2.1)) (sc + (R r).2.2) mo ((be != (R r).1) && decide (tv rw sz * (R r).2.1 ≠ 0)) ts us lz pr fa D K Mn Mi Sc (g') (tp') un lf pa)) : zm_M l B gM m_Mo_times [.ref 53, .int (nI r)] (mS t ln sz sc mo be ts us lz pr fa D K Mn Mi Sc rw tp un lf pa) Q := by
  obtain ⟨mr, kr, nr, sr⟩ := hM.2 r hr
  obtain ⟨rr, rr2, rr3, -⟩ := hR r hr
  have pr1 := dg_pos (R r).2.1
  have hW : tv (td (R r).2.1 (dg (R r).2.1)) (dg (R r).2.1) = (R r).2.1 := tv_td (dg_lt _)
  refine zm_go (okm_Mo_times hG hl) [14] 200 ?_
  conv => whnf
  refine ⟨r, rfl, by omega, ?_⟩
  conv => whnf
  refine ⟨?_, trivial⟩
  try dsimp only
  rw [mr, nI_add]
  refine w_times1 (n := sz + dg (R r).2.1) hG hl (by omega) (fun t1 a1 => ?_) (sz + dg (R r).2.1) 0 tp (by omega) (fun j hj => by omega)
  refine zm_go (okm_Mo_times hG hl) [39] 200 ?_
  conv => whnf
  refine ⟨?_, trivial⟩
  try dsimp only
  rw [show nI sz - 1 = iI ((sz : Int) - 1) by rw [iI_nI]; exact iI_sub _ 1]
  refine w_times2 (n := sz + dg (R r).2.1) (w := td (R r).2.1 (dg (R r).2.1)) hG hl hr rfl hs pr1 rr hd mr kr (fun j => td_lt _ _ _) (fun t2 av x4 x5 x6 b1 b2 => ?_) sz t1 _ _ _ (Nat.le_refl _) (fun j hj => by rw [a1 j hj]; decide) (fun j hj => a1 j (by omega)) (by
    rw [Nat.sub_self, tv_z.mpr a1]
    show 0 = 0 * _
    omega)
  rw [hW] at b2
  refine zm_go (okm_Mo_times hG hl) [155] 200 ?_
  conv => whnf
  refine ⟨?_, trivial⟩
  try dsimp only
  refine w_times4 (n := sz + dg (R r).2.1) (sz := sz + dg (R r).2.1) hG hl (by omega) (fun g' c1 c2 => ?_) (sz + dg (R r).2.1) 0 rw (by omega) (fun j hj => by omega) (fun j _ => rfl)
  have c3 : ∀ i, g' i < 10 := fun i => by
    by_cases q : i < sz + dg (R r).2.1
    · rw [c1 i q]; exact b1 i q
    · rw [c2 i (by omega)]; exact hd i
  have c4 : tv g' (sz + dg (R r).2.1) = tv rw sz * (R r).2.1 := (tv_congr c1).trans b2
  have fin : zm_W l B gM m_Mo_times 199 [some (.ref 53), some (.int (nI r)), some (.int (nI (sz + dg (R r).2.1))), some (.int (bI be)), x4, x5, x6] [.int (bI (be != (R r).1)), .ref 53] (mS t ln (sz + dg (R r).2.1) sc mo be ts us lz pr fa D K Mn Mi Sc (g') (t2) un lf pa) Q := by
    refine zm_go (okm_Mo_times hG hl) [] 200 ?_
    conv => whnf
    refine ⟨(be != (R r).1), rfl, ?_⟩
    conv => whnf
    refine ⟨r, rfl, by omega, ?_⟩
    conv => whnf
    dsimp only
    rw [sr, iI_l ⟨by omega, by omega⟩, lI_add]
    refine k_trim hG hl (by omega) c3 (fun g2 d1 d2 => ?_)
    rw [c4] at d2 ⊢
    have hqq := hq g2 t2 d1 d2
    have hle : dg (tv rw sz * (R r).2.1) ≤ sz + dg (R r).2.1 := by
      rw [← c4]
      exact dgle (by omega) (tv_lt (fun i _ => c3 i))
    conv => whnf
    by_cases q : dg (tv rw sz * (R r).2.1) ≤ 1000
    · rw [decide_eq_true q] at hqq
      refine ⟨fun z => absurd z (Int32.not_lt.mpr ((nI_leI (b := 1000) (by omega) (by decide)).mpr q)), fun _ => ?_⟩
      conv => whnf
      exact ⟨⟨true, rfl, hqq⟩, trivial⟩
    · rw [decide_eq_false q] at hqq
      refine ⟨fun _ => ?_, fun z => absurd ((nI_leI (b := 1000) (by omega) (by decide)).mp (Int32.not_lt.mp z)) q⟩
      conv => whnf
      exact ⟨⟨false, rfl, hqq⟩, trivial⟩
  refine zm_go (okm_Mo_times hG hl) [199] 200 ?_
  conv => whnf
  refine ⟨r, rfl, by omega, ?_⟩
  conv => whnf
  dsimp only
  rw [nr]
  cases be <;> cases hb : (R r).1 <;> rw [hb] at fin
  · refine ⟨fun _ => ?_, fun z => absurd rfl z⟩
    conv => whnf
    refine ⟨?_, trivial⟩
    try dsimp only
    exact fin
  · refine ⟨fun z => absurd z (by decide), fun _ => ?_⟩
    conv => whnf
    refine ⟨?_, trivial⟩
    try dsimp only
    exact fin
  · refine ⟨fun z => absurd z (by decide), fun _ => ?_⟩
    conv => whnf
    refine ⟨?_, trivial⟩
    try dsimp only
    exact fin
  · refine ⟨fun _ => ?_, fun z => absurd rfl z⟩
    conv => whnf
    refine ⟨?_, trivial⟩
    try dsimp only
    exact fin
end KL

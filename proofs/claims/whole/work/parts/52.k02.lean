/-! the model: more of its plain methods -/
theorem cmp_lt (x y : Int64) : lg_cmp x y < 0 ↔ x < y := by
  have := lg_cmp_ge x y
  rw [← Int32.not_le, this, Int64.not_le]
theorem cmp_gt (x y : Int64) : lg_cmp x y > 0 ↔ y < x := by
  have := lg_cmp_le x y
  show 0 < lg_cmp x y ↔ y < x
  rw [← Int32.not_le, this, Int64.not_le]
theorem cmp_eq (x y : Int64) : lg_cmp x y = 0 ↔ x = y := by
  have a := lg_cmp_le x y
  have b := lg_cmp_ge x y
  constructor
  · intro e
    rw [e] at a b
    exact Int64.le_antisymm (a.mp (Int32.le_refl 0)) (b.mp (Int32.le_refl 0))
  · intro e
    subst e
    exact Int32.le_antisymm (a.mpr (Int64.le_refl _)) (b.mpr (Int64.le_refl _))
theorem bI_or (a b : Bool) : bI (a || b) = if a then 1 else bI b := by cases a <;> rfl
theorem bI_f : bI false = 0 := rfl
theorem bI_t : bI true = 1 := rfl
theorem bI_1 {b : Bool} : ¬ bI b = 0 ↔ b = true := by cases b <;> simp [bI]
theorem iI_0 : iI 0 = 0 := rfl
theorem nI_m1 {i : Nat} (h : 1 ≤ i) : nI i + -1 = nI (i - 1) := by
  rw [← nI_sub h, Int32.sub_eq_add_neg]
  rfl
theorem iI_m1 {i : Int} : iI i + -1 = iI (i - 1) := by
  rw [← iI_sub, Int32.sub_eq_add_neg]
  rfl
theorem nI_dv {a b : Nat} (ha : a < 2 ^ 31) (hb : b < 2 ^ 31) (h0 : 0 < b) : nI a / nI b = nI (a / b) := by
  rw [iI_nI, iI_nI, iI_nI, iI_div ⟨by omega, by omega⟩ (by omega) ⟨by omega, by omega⟩ (by omega)]
  rfl
theorem nI_rm {a b : Nat} (ha : a < 2 ^ 31) (hb : b < 2 ^ 31) (h0 : 0 < b) : nI a - nI a / nI b * nI b = nI (a % b) := by
  rw [iI_nI, iI_nI, iI_nI, iI_rem ⟨by omega, by omega⟩ (by omega) ⟨by omega, by omega⟩ (by omega)]
  rfl
section KC
variable {l : Launch} {B : zd_B} {Q : Option Value → zst → Prop} {t ln sz : Nat} {sc : Int} {mo be : Bool} {ts us lz pr fa : Nat} {D K Mn : Nat → Nat} {Mi : Nat → Bool} {Sc : Nat → Int} {rw tp un lf pa : Nat → Nat}
theorem k_no (hG : zd_G B) (hl : l.stackTraces = false) {a : Int} (ha : iR a) (hq : Q (some (.int (bI (decide (a < 0 ∨ 10 ≤ a))))) (mS t ln sz sc mo be ts us lz pr fa D K Mn Mi Sc rw tp un lf pa)) : zm_M l B gM m_Mo_no [.int (iI a)] (mS t ln sz sc mo be ts us lz pr fa D K Mn Mi Sc rw tp un lf pa) Q := by
  have h0 : iR 0 := ⟨by decide, by decide⟩
  have h10 : iR 10 := ⟨by decide, by decide⟩
  refine zm_go (okm_Mo_no hG hl) [] 200 ?_
  conv => whnf
  refine ⟨fun z => ?_, fun z => ?_⟩
  · have z' : a < 0 := (iI_lt ha h0).mp z
    rw [decide_eq_true (Or.inl z')] at hq
    conv => whnf
    exact ⟨⟨true, rfl, hq⟩, trivial⟩
  · have z' : ¬ a < 0 := fun q => z ((iI_lt ha h0).mpr q)
    conv => whnf
    refine ⟨fun z => ?_, fun z => ?_⟩
    · have z2 : a < 10 := (iI_lt ha h10).mp z
      rw [decide_eq_false (by omega)] at hq
      conv => whnf
      exact ⟨⟨false, rfl, hq⟩, trivial⟩
    · have z2 : ¬ a < 10 := fun q => z ((iI_lt ha h10).mpr q)
      rw [decide_eq_true (by omega)] at hq
      conv => whnf
      exact ⟨⟨true, rfl, hq⟩, trivial⟩
theorem k_noMode (hG : zd_G B) (hl : l.stackTraces = false) {a : Int} (ha : iR a) (hq : Q (some (.int (bI (decide (a < 0 ∨ 8 ≤ a))))) (mS t ln sz sc mo be ts us lz pr fa D K Mn Mi Sc rw tp un lf pa)) : zm_M l B gM m_Mo_noMode [.int (iI a)] (mS t ln sz sc mo be ts us lz pr fa D K Mn Mi Sc rw tp un lf pa) Q := by
  have h0 : iR 0 := ⟨by decide, by decide⟩
  have h10 : iR 7 := ⟨by decide, by decide⟩
  refine zm_go (okm_Mo_noMode hG hl) [] 200 ?_
  conv => whnf
  refine ⟨fun z => ?_, fun z => ?_⟩
  · have z' : a < 0 := (iI_lt ha h0).mp z
    rw [decide_eq_true (Or.inl z')] at hq
    conv => whnf
    exact ⟨⟨true, rfl, hq⟩, trivial⟩
  · have z' : ¬ a < 0 := fun q => z ((iI_lt ha h0).mpr q)
    conv => whnf
    refine ⟨fun z => ?_, fun z => ?_⟩
    · have z2 : a ≤ 7 := (iI_le ha h10).mp z
      rw [decide_eq_false (by omega)] at hq
      conv => whnf
      exact ⟨⟨false, rfl, hq⟩, trivial⟩
    · have z2 : ¬ a ≤ 7 := fun q => z ((iI_le ha h10).mpr q)
      rw [decide_eq_true (by omega)] at hq
      conv => whnf
      exact ⟨⟨true, rfl, hq⟩, trivial⟩
theorem k_isZero (hG : zd_G B) (hl : l.stackTraces = false) {R : Nat → zr} (hM : MR R K Mn Mi Sc) {r : Nat} (hr : r < 10) (hq : Q (some (.int (bI (decide ((R r).2.1 = 0))))) (mS t ln sz sc mo be ts us lz pr fa D K Mn Mi Sc rw tp un lf pa)) : zm_M l B gM m_Mo_isZero [.ref 53, .int (nI r)] (mS t ln sz sc mo be ts us lz pr fa D K Mn Mi Sc rw tp un lf pa) Q := by
  obtain ⟨h1, h2, h3, h4⟩ := hM.2 r hr
  have h5 := h2 0 (dg_pos _)
  have h6 : K (1000 * r) = 0 ↔ (R r).2.1 = 0 := by
    rw [show 1000 * r = 1000 * r + 0 from rfl, h5]
    constructor
    · exact fun e => Decidable.byContradiction fun q => td_dg0 q e
    · intro e
      rw [e]
      unfold td
      simp
  have h7 := hM.1 (1000 * r)
  refine zm_go (okm_Mo_isZero hG hl) [] 200 ?_
  conv => whnf
  refine ⟨(1000 * r), by rw [← lmul]; rfl, by omega, ?_⟩
  conv => whnf
  refine ⟨fun z => ?_, fun z => ?_⟩
  · have z' : ¬ (R r).2.1 = 0 := fun q => z ((nI_z (by omega)).mpr (h6.mpr q))
    rw [decide_eq_false z'] at hq
    conv => whnf
    exact ⟨⟨false, rfl, hq⟩, trivial⟩
  · have z' := h6.mp ((nI_z (by omega)).mp z)
    rw [decide_eq_true z'] at hq
    conv => whnf
    exact ⟨⟨true, rfl, hq⟩, trivial⟩
/-- the digits of a register set one by one -/
theorem w_store (hG : zd_G B) (hl : l.stackTraces = false) {to : Nat} (hr : to < 10) (hs : sz ≤ 1000)
    (hq : ∀ k', (∀ j, j < sz → k' (1000 * to + j) = rw j) → (∀ i, (i < 1000 * to ∨ 1000 * to + sz ≤ i) → k' i = K i) → zm_W l B gM m_Mo_store 79 [some (.ref 53), some (.int (nI to)), some (.int (nI sz))] [] (mS t ln sz sc mo be ts us lz pr fa D (k') Mn Mi Sc rw tp un lf pa) Q) :
    ∀ (d i : Nat) (k : Nat → Nat), i + d = sz → (∀ j, j < i → k (1000 * to + j) = rw j) → (∀ j, (j < 1000 * to ∨ 1000 * to + i ≤ j) → k j = K j) → zm_W l B gM m_Mo_store 47 [some (.ref 53), some (.int (nI to)), some (.int (nI i))] [] (mS t ln sz sc mo be ts us lz pr fa D (k) Mn Mi Sc rw tp un lf pa) Q := by
  intro d
  induction d with
  | zero =>
    intro i k hi h1 h2
    have e : i = sz := by omega
    subst e
    refine zm_go (okm_Mo_store hG hl) [79] 200 ?_
    conv => whnf
    refine ⟨fun z => ?_, fun z => absurd (Int32.le_refl _) z⟩
    refine ⟨?_, trivial⟩
    try dsimp only
    exact hq k h1 h2
  | succ d ih =>
    intro i k hi h1 h2
    refine zm_go (okm_Mo_store hG hl) [47] 200 ?_
    conv => whnf
    refine ⟨fun z => absurd ((nI_ge0 (by omega) (by omega)).mp z) (by omega), fun z => ?_⟩
    conv => whnf
    refine ⟨i, rfl, by omega, ?_⟩
    conv => whnf
    refine ⟨(1000 * to + i), by rw [← nI_add, ← lmul]; rfl, by omega, ?_⟩
    conv => whnf
    refine ⟨?_, trivial⟩
    try dsimp only
    rw [nI_1]
    rw [upd_nI]
    refine ih (i + 1) _ (by omega) (fun j hj => ?_) (fun j hj => ?_)
    · by_cases q : j = i
      · rw [q, zu_s]
      · rw [zu_n (by omega)]; exact h1 j (by omega)
    · rw [zu_n (by omega)]; exact h2 j (by omega)
theorem td_ext {V n : Nat} {g : Nat → Nat} (hd : ∀ i, g i < 10) (hv : tv g n = V) : ∀ i, i < n → g i = td V n i := fun i hi => by
  rw [← hv]; exact tv_td_of (fun i _ => hd i) i hi
theorem k_store (hG : zd_G B) (hl : l.stackTraces = false) {R : Nat → zr} (hR : ROk R) (hM : MR R K Mn Mi Sc) {to : Nat} (hr : to < 10) (hs : sz ≤ 4400) (hd : ∀ i, rw i < 10) (hsc : -4000000000000 < sc ∧ sc < 4000000000000)
    (hq : (dg (tv rw sz) ≤ 1000 ∧ -10000 ≤ sc ∧ sc ≤ 10000) → ∀ k' m' i' s' g', (∀ i, g' i < 10) → MR (zpu R to (be && decide (tv rw sz ≠ 0), tv rw sz, sc)) k' m' i' s' → Q none (mS t ln (dg (tv rw sz)) sc mo (be && decide (tv rw sz ≠ 0)) ts us lz pr fa D (k') (m') (i') (s') (g') tp un lf pa))
    (hf : ¬ (dg (tv rw sz) ≤ 1000 ∧ -10000 ≤ sc ∧ sc ≤ 10000) → ∀ g', (∀ i, g' i < 10) → Q none (mS (fa) ln (dg (tv rw sz)) sc mo (be && decide (tv rw sz ≠ 0)) ts us lz pr fa D K Mn Mi Sc (g') tp un lf pa)) : zm_M l B gM m_Mo_store [.ref 53, .int (nI to)] (mS t ln sz sc mo be ts us lz pr fa D K Mn Mi Sc rw tp un lf pa) Q := by
  have hdz : dg (tv rw sz) ≤ 4400 := by
    by_cases e : sz = 0
    · subst e
      show dg 0 ≤ 4400
      rw [dg_0]; decide
    · exact Nat.le_trans (dgle (by omega) (tv_lt (fun i _ => hd i))) hs
  have q1 : lR sc := ⟨by omega, by omega⟩
  refine zm_go (okm_Mo_store hG hl) [36, 47] 200 ?_
  conv => whnf
  refine k_trim hG hl hs hd (fun g' a1 a2 => ?_)
  have bad : ¬ (dg (tv rw sz) ≤ 1000 ∧ -10000 ≤ sc ∧ sc ≤ 10000) → zm_W l B gM m_Mo_store 36 [some (.ref 53), some (.int (nI to)), none] [] (mS t ln (dg (tv rw sz)) sc mo (be && decide (tv rw sz ≠ 0)) ts us lz pr fa D K Mn Mi Sc (g') tp un lf pa) Q := by
    intro hb
    refine zm_go (okm_Mo_store hG hl) [] 200 ?_
    conv => whnf
    exact ⟨hf hb g' a1, trivial⟩
  conv => whnf
  refine ⟨fun z => ?_, fun z => ?_⟩
  · have z' : ¬ dg (tv rw sz) ≤ 1000 := fun q => absurd z (Int32.not_lt.mpr ((nI_leI (b := 1000) (by omega) (by omega)).mpr q))
    refine ⟨?_, trivial⟩
    try dsimp only
    exact bad (fun q => z' q.1)
  · have z1 : dg (tv rw sz) ≤ 1000 := (nI_leI (b := 1000) (by omega) (by omega)).mp (Int32.not_lt.mp z)
    conv => whnf
    refine ⟨fun z => ?_, fun z => ?_⟩
    · have z' : sc < -10000 := (lI_lt (b := -10000) q1 ⟨by decide, by decide⟩).mp ((cmp_lt _ _).mp z)
      refine ⟨?_, trivial⟩
      try dsimp only
      exact bad (fun q => by omega)
    · have z2 : ¬ sc < -10000 := fun q => z ((cmp_lt _ _).mpr ((lI_lt (b := -10000) q1 ⟨by decide, by decide⟩).mpr q))
      conv => whnf
      refine ⟨fun z => ?_, fun z => ?_⟩
      · have z3 : sc ≤ 10000 := (lI_le (b := 10000) q1 ⟨by decide, by decide⟩).mp ((lg_cmp_le _ _).mp z)
        conv => whnf
        refine ⟨?_, trivial⟩
        try dsimp only
        refine w_store (sz := dg (tv rw sz)) (be := be && decide (tv rw sz ≠ 0)) (rw := g') hG hl hr z1 (fun k' b1 b2 => ?_) (dg (tv rw sz)) 0 K (by omega) (fun j hj => by omega) (fun j _ => rfl)
        refine zm_go (okm_Mo_store hG hl) [] 200 ?_
        conv => whnf
        refine ⟨to, rfl, by omega, ?_⟩
        conv => whnf
        refine ⟨to, rfl, by omega, ?_⟩
        conv => whnf
        refine ⟨(be && decide (tv rw sz ≠ 0)), rfl, ?_⟩
        conv => whnf
        refine ⟨to, rfl, by omega, ?_⟩
        conv => whnf
        rw [upd_nI, upd_bI, lI_i, upd_iI]
        refine ⟨hq ⟨z1, by omega, z3⟩ k' _ _ _ g' a1 ⟨fun i => ?_, fun r hr2 => ?_⟩, trivial⟩
        · by_cases e : i < 1000 * to ∨ 1000 * to + dg (tv rw sz) ≤ i
          · rw [b2 i e]; exact hM.1 i
          · rw [show i = 1000 * to + (i - 1000 * to) by omega, b1 _ (by omega)]; exact a1 _
        · by_cases e : r = to
          · subst e
            rw [zpu_s, zu_s, zpu_s, zpu_s]
            refine ⟨rfl, fun k hk => ?_, rfl, rfl⟩
            rw [b1 k hk]
            exact td_ext a1 a2 k hk
          · rw [zpu_n e, zu_n e, zpu_n e, zpu_n e]
            obtain ⟨h1, h2, h3, h4⟩ := hM.2 r hr2
            refine ⟨h1, fun k hk => ?_, h3, h4⟩
            have := (hR r hr2).1
            rw [b2 _ (by omega)]
            exact h2 k hk
      · have z3 : ¬ sc ≤ 10000 := fun q => z ((lg_cmp_le _ _).mpr ((lI_le (b := 10000) q1 ⟨by decide, by decide⟩).mpr q))
        refine ⟨?_, trivial⟩
        try dsimp only
        exact bad (fun q => z3 q.2.2)
/-- anything else than 0 from i on -/
theorem w_isMore (hG : zd_G B) (hl : l.stackTraces = false) (hs : sz ≤ 4400) (hd : ∀ i, rw i < 10) {f : Nat} {av : Int32} (hq : Q (some (.int (bI (mo || decide (tv (fun i => rw (f + i)) (sz - f) ≠ 0))))) (mS t ln sz sc mo be ts us lz pr fa D K Mn Mi Sc rw tp un lf pa)) :
    ∀ (d i : Nat), f ≤ i → i + d = sz → zm_W l B gM m_Mo_isMore 15 [some (.ref 53), some (.int av), some (.int (bI (mo || decide (tv (fun i => rw (f + i)) (i - f) ≠ 0)))), some (.int (nI i))] [] (mS t ln sz sc mo be ts us lz pr fa D K Mn Mi Sc rw tp un lf pa) Q := by
  intro d
  induction d with
  | zero =>
    intro i hf hi
    have e : i = sz := by omega
    subst e
    refine zm_go (okm_Mo_isMore hG hl) [] 200 ?_
    conv => whnf
    refine ⟨fun z => ?_, fun z => absurd (Int32.le_refl _) z⟩
    conv => whnf
    exact ⟨⟨_, rfl, hq⟩, trivial⟩
  | succ d ih =>
    intro i hf hi
    have stp : tv (fun i => rw (f + i)) (i + 1 - f) = tv (fun i => rw (f + i)) (i - f) * 10 + rw i := by
      rw [show i + 1 - f = (i - f) + 1 by omega]
      show tv (fun i => rw (f + i)) (i - f) * 10 + rw (f + (i - f)) = _
      rw [show f + (i - f) = i by omega]
    have nxt := ih (i + 1) (by omega) (by omega)
    rw [stp] at nxt
    have hi10 := hd i
    refine zm_go (okm_Mo_isMore hG hl) [15] 200 ?_
    conv => whnf
    refine ⟨fun z => absurd ((nI_ge0 (by omega) (by omega)).mp z) (by omega), fun z => ?_⟩
    conv => whnf
    generalize tv (fun i => rw (f + i)) (i - f) = X at nxt ⊢
    refine ⟨fun z => ?_, fun z => ?_⟩
    · have z' := bI_1.mp z
      conv => whnf
      refine ⟨?_, trivial⟩
      try dsimp only
      rw [nI_1]
      rw [show (mo || decide (X * 10 + rw i ≠ 0)) = true by
        cases mo
        · have : X ≠ 0 := by simpa using z'
          simp; omega
        · rfl] at nxt
      exact nxt
    · have z' := bI_z.mp z
      obtain ⟨e1, e2⟩ := Bool.or_eq_false_iff.mp z'
      have e3 : X = 0 := by simpa using e2
      subst e1
      subst e3
      conv => whnf
      refine ⟨i, rfl, by omega, ?_⟩
      conv => whnf
      refine ⟨fun z => ?_, fun z => ?_⟩
      · have z2 := (nI_z (by omega)).mp z
        conv => whnf
        refine ⟨?_, trivial⟩
        try dsimp only
        rw [nI_1]
        rw [z2] at nxt
        exact nxt
      · have z2 : rw i ≠ 0 := fun q => z ((nI_z (by omega)).mpr q)
        conv => whnf
        refine ⟨?_, trivial⟩
        try dsimp only
        rw [nI_1]
        rw [show (false || decide (0 * 10 + rw i ≠ 0)) = true by simp [z2]] at nxt
        exact nxt
theorem k_isMore (hG : zd_G B) (hl : l.stackTraces = false) (hs : sz ≤ 4400) (hd : ∀ i, rw i < 10) {f : Int} (h1 : -1 ≤ f) (h2 : f ≤ sz) (hq : Q (some (.int (bI (mo || decide (tv rw sz % 10 ^ (sz - f.toNat) ≠ 0))))) (mS t ln sz sc mo be ts us lz pr fa D K Mn Mi Sc rw tp un lf pa)) : zm_M l B gM m_Mo_isMore [.ref 53, .int (iI f)] (mS t ln sz sc mo be ts us lz pr fa D K Mn Mi Sc rw tp un lf pa) Q := by
  rw [tv_suf (k := f.toNat) (by omega) (fun i _ => hd i)] at hq
  have w := w_isMore (Q := Q) (f := f.toNat) (av := iI f) hG hl hs hd hq (sz - f.toNat) f.toNat (Nat.le_refl _) (by omega)
  rw [Nat.sub_self, show (mo || decide (tv (fun i => rw (f.toNat + i)) 0 ≠ 0)) = mo by simp [tv]] at w
  refine zm_go (okm_Mo_isMore hG hl) [15] 200 ?_
  conv => whnf
  refine ⟨fun z => ?_, fun z => ?_⟩
  · have z' : 0 ≤ f := (iI_le (a := 0) (b := f) ⟨by decide, by decide⟩ ⟨by omega, by omega⟩).mp z
    conv => whnf
    refine ⟨?_, trivial⟩
    try dsimp only
    rw [iI_nI, show ((f.toNat : Nat) : Int) = f by omega] at w
    exact w
  · have z' : ¬ 0 ≤ f := fun q => z ((iI_le (a := 0) (b := f) ⟨by decide, by decide⟩ ⟨by omega, by omega⟩).mpr q)
    conv => whnf
    refine ⟨?_, trivial⟩
    try dsimp only
    rw [show f.toNat = 0 by omega] at w
    exact w
/-- the digits that are needed -/
theorem needed_pure {g : Nat → Nat} {n : Nat} (hd : ∀ i, g i < 10) (h0 : tv g n ≠ 0) : tz (tv g n) < n ∧ (∀ i, n - tz (tv g n) ≤ i → i < n → g i = 0) ∧ g (n - tz (tv g n) - 1) ≠ 0 := by
  have hd' : ∀ i, i < n → g i < 10 := fun i _ => hd i
  have hn : 0 < n := Nat.pos_of_ne_zero (fun e => h0 (by rw [e]; rfl))
  have hl := tv_lt hd'
  have ht : tz (tv g n) < n := Nat.lt_of_lt_of_le (tz_lt_dg h0) (dgle hn hl)
  obtain ⟨a, b⟩ := tz_spec _ h0
  have e1 := tv_suf (g := g) (n := n) (k := n - tz (tv g n)) (by omega) hd'
  rw [show n - (n - tz (tv g n)) = tz (tv g n) by omega, a] at e1
  refine ⟨ht, fun i h1 h2 => ?_, fun e => b ?_⟩
  · have := tv_z.mp e1.symm (i - (n - tz (tv g n))) (by omega)
    rwa [show n - tz (tv g n) + (i - (n - tz (tv g n))) = i by omega] at this
  · have e2 := tv_suf (g := g) (n := n) (k := n - tz (tv g n) - 1) (by omega) hd'
    rw [show n - (n - tz (tv g n) - 1) = tz (tv g n) + 1 by omega] at e2
    rw [e2]
    refine tv_z.mpr (fun i hi => ?_)
    by_cases q : i = 0
    · rw [q]; exact e
    · have := tv_z.mp e1.symm (i - 1) (by omega)
      rwa [show n - tz (tv g n) + (i - 1) = n - tz (tv g n) - 1 + i by omega] at this
theorem w_needed (hG : zd_G B) (hl : l.stackTraces = false) (hs : sz ≤ 4400) (hd : ∀ i, rw i < 10) (h0 : tv rw sz ≠ 0) (hq : Q (some (.int (nI (sz - tz (tv rw sz))))) (mS t ln sz sc mo be ts us lz pr fa D K Mn Mi Sc rw tp un lf pa)) :
    ∀ (d i : Nat), i = sz - tz (tv rw sz) + d → i ≤ sz → zm_W l B gM m_Mo_needed 5 [some (.ref 53), some (.int (nI i))] [] (mS t ln sz sc mo be ts us lz pr fa D K Mn Mi Sc rw tp un lf pa) Q := by
  obtain ⟨n1, n2, n3⟩ := needed_pure hd h0
  intro d
  induction d with
  | zero =>
    intro i hi hi2
    have hi' : i = sz - tz (tv rw sz) := by omega
    subst hi'
    refine zm_go (okm_Mo_needed hG hl) [] 200 ?_
    conv => whnf
    refine ⟨fun z => ?_, fun z => ?_⟩
    · conv => whnf
      exact ⟨hq, trivial⟩
    · conv => whnf
      refine ⟨(sz - tz (tv rw sz) - 1), nI_sub (b := 1) (by omega), by omega, ?_⟩
      conv => whnf
      refine ⟨fun z => ?_, fun z => ?_⟩
      · conv => whnf
        exact ⟨hq, trivial⟩
      · exact absurd ((nI_z (by have := hd (sz - tz (tv rw sz) - 1); omega)).mp z) n3
  | succ d ih =>
    intro i hi hi2
    refine zm_go (okm_Mo_needed hG hl) [5] 200 ?_
    conv => whnf
    refine ⟨fun z => absurd ((nI_leI (b := 1) (by omega) (by omega)).mp z) (by omega), fun z => ?_⟩
    conv => whnf
    refine ⟨(i - 1), nI_sub (b := 1) (by omega), by omega, ?_⟩
    conv => whnf
    refine ⟨fun z => absurd ((nI_z (by have := hd (i - 1); omega)).mpr (n2 (i - 1) (by omega) (by omega))) z, fun z => ?_⟩
    conv => whnf
    refine ⟨?_, trivial⟩
    try dsimp only
    rw [nI_m1 (by omega)]
    exact ih (i - 1) (by omega) (by omega)
theorem k_needed (hG : zd_G B) (hl : l.stackTraces = false) (hs : sz ≤ 4400) (hd : ∀ i, rw i < 10) (h0 : tv rw sz ≠ 0) (hq : Q (some (.int (nI (sz - tz (tv rw sz))))) (mS t ln sz sc mo be ts us lz pr fa D K Mn Mi Sc rw tp un lf pa)) : zm_M l B gM m_Mo_needed [.ref 53] (mS t ln sz sc mo be ts us lz pr fa D K Mn Mi Sc rw tp un lf pa) Q := by
  obtain ⟨n1, n2, n3⟩ := needed_pure hd h0
  refine zm_go (okm_Mo_needed hG hl) [5] 200 ?_
  conv => whnf
  refine ⟨?_, trivial⟩
  try dsimp only
  exact w_needed hG hl hs hd h0 hq (tz (tv rw sz)) sz (by omega) (Nat.le_refl _)
theorem lI_nl (n : Nat) : lN n = lI (n : Int) := (Int64.ofInt_eq_ofNat (n := n)).symm
/-- zeros behind -/
theorem w_lengthen (hG : zd_G B) (hl : l.stackTraces = false) {zn : Nat} (hs : sz + zn ≤ 4400) (hsc : -4000000000000 < sc ∧ sc < 4000000000000)
    (hq : ∀ g', (∀ i, i < sz → g' i = rw i) → (∀ i, sz ≤ i → i < sz + zn → g' i = 0) → (∀ i, sz + zn ≤ i → g' i = rw i) → Q none (mS t ln (sz + zn) (sc + zn) mo be ts us lz pr fa D K Mn Mi Sc (g') tp un lf pa)) :
    ∀ (d i : Nat) (g : Nat → Nat), i + d = zn → (∀ j, j < sz → g j = rw j) → (∀ j, sz ≤ j → j < sz + i → g j = 0) → (∀ j, sz + i ≤ j → g j = rw j) → zm_W l B gM m_Mo_lengthen 2 [some (.ref 53), some (.long (lI zn)), none, some (.long (lI i)), none] [] (mS t ln (sz + i) sc mo be ts us lz pr fa D K Mn Mi Sc (g) tp un lf pa) Q := by
  intro d
  induction d with
  | zero =>
    intro i g hi h1 h2 h3
    have e : i = zn := by omega
    subst e
    refine zm_go (okm_Mo_lengthen hG hl) [] 200 ?_
    conv => whnf
    refine ⟨fun z => ?_, fun z => absurd ((lg_cmp_ge _ _).mpr (Int64.le_refl _)) z⟩
    conv => whnf
    rw [lI_add]
    exact ⟨hq g h1 h2 h3, trivial⟩
  | succ d ih =>
    intro i g hi h1 h2 h3
    refine zm_go (okm_Mo_lengthen hG hl) [2] 200 ?_
    conv => whnf
    refine ⟨fun z => absurd ((lI_le (a := zn) (b := i) ⟨by omega, by omega⟩ ⟨by omega, by omega⟩).mp ((lg_cmp_ge _ _).mp z)) (by omega), fun z => ?_⟩
    conv => whnf
    refine ⟨(sz + i), rfl, by omega, ?_⟩
    conv => whnf
    refine ⟨?_, trivial⟩
    try dsimp only
    rw [nI_1, show (0 : Int32) = nI 0 from rfl]
    rw [upd_nI]
    have := ih (i + 1) (zu g (sz + i) 0) (by omega) (fun j hj => by rw [zu_n (by omega)]; exact h1 j hj) (fun j hj hj2 => by
      by_cases q : j = sz + i
      · rw [q, zu_s]
      · rw [zu_n q]; exact h2 j hj (by omega)) (fun j hj => by rw [zu_n (by omega)]; exact h3 j (by omega))
    rw [show lI ((i : Nat) : Int) + 1 = lI (((i + 1 : Nat) : Int)) by
      rw [show (1 : Int64) = lI 1 from rfl, lI_add]; rfl]
    exact this
theorem k_lengthen (hG : zd_G B) (hl : l.stackTraces = false) {zn : Nat} (hs : sz + zn ≤ 4400) (hd : ∀ i, rw i < 10) (hsc : -4000000000000 < sc ∧ sc < 4000000000000)
    (hq : ∀ g', (∀ i, g' i < 10) → tv g' (sz + zn) = tv rw sz * 10 ^ zn → Q none (mS t ln (sz + zn) (sc + zn) mo be ts us lz pr fa D K Mn Mi Sc (g') tp un lf pa)) : zm_M l B gM m_Mo_lengthen [.ref 53, .long (lI zn)] (mS t ln sz sc mo be ts us lz pr fa D K Mn Mi Sc rw tp un lf pa) Q := by
  refine zm_go (okm_Mo_lengthen hG hl) [2] 200 ?_
  conv => whnf
  refine ⟨?_, trivial⟩
  try dsimp only
  refine w_lengthen hG hl hs hsc (fun g' a1 a2 a3 => hq g' (fun i => ?_) ?_) zn 0 rw (by omega) (fun j _ => rfl) (fun j h1 h2 => by omega) (fun j _ => rfl)
  · by_cases q : i < sz
    · rw [a1 i q]; exact hd i
    · by_cases q2 : i < sz + zn
      · rw [a2 i (by omega) q2]; decide
      · rw [a3 i (by omega)]; exact hd i
  · rw [tv_split, tv_congr a1, tv_z.mpr (fun i hi => a2 (sz + i) (by omega) (by omega))]
    omega
end KC

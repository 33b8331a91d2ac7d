/-! the model: one figure of a root tried -/
section KS
variable {l : Launch} {B : zd_B} {Q : Option Value → zst → Prop} {t ln sz : Nat} {sc : Int} {mo be : Bool} {ts us lz pr fa : Nat} {D K Mn : Nat → Nat} {Mi : Nat → Bool} {Sc : Nat → Int} {rw tp un lf pa : Nat → Nat}
/-- what the first k figures from behind are -/
def rsum (r d k : Nat) : Nat := if k = 0 then 0 else d * d + 20 * d * (r % 10 ^ (k - 1))
theorem rsum_step {r d k : Nat} : rsum r d (k + 1) = rsum r d k + (if k = 0 then d * d else 2 * (r / 10 ^ (k - 1) % 10) * d) * 10 ^ k := by
  unfold rsum
  rw [if_neg (by omega), Nat.add_sub_cancel]
  by_cases e : k = 0
  · subst e
    simp [Nat.mod_one]
  · rw [if_neg e, if_neg e]
    have h1 : r % 10 ^ k = r % 10 ^ (k - 1) + 10 ^ (k - 1) * (r / 10 ^ (k - 1) % 10) := by
      conv => lhs; rw [show k = (k - 1) + 1 by omega, Nat.pow_succ, Nat.mod_mul]
    have h2 : 10 ^ k = 10 * 10 ^ (k - 1) := by
      conv => lhs; rw [show k = (k - 1) + 1 by omega, Nat.pow_succ, Nat.mul_comm]
    rw [h1, h2, Nat.mul_add, ← Nat.add_assoc]
    congr 1
    generalize r / 10 ^ (k - 1) % 10 = x
    generalize 10 ^ (k - 1) = p
    rw [show 20 * d * (p * x) = 20 * (d * (p * x)) by rw [Nat.mul_assoc], show 2 * x * d * (10 * p) = 20 * (d * (p * x)) by
      rw [show 2 * x * d * (10 * p) = 2 * 10 * (x * d * p) by
        simp only [Nat.mul_comm, Nat.mul_left_comm, Nat.mul_assoc]]
      congr 1
      simp only [Nat.mul_comm, Nat.mul_left_comm]]
theorem w_tr34 (hG : zd_G B) (hl : l.stackTraces = false) {d : Nat} {x5 x6 x7 : Option Value} (hd9 : d ≤ 9) (hs : sz ≤ 2000) (hus : us ≤ 2200) (hd : ∀ i, rw i < 10)
    (hq : ∀ u' c (x5 x6 x7 : Option Value), c ≤ 100 → (∀ j, j < us → u' j < 10) → tv u' us + c * 10 ^ us = rsum (tv rw sz) d us → zm_W l B gM m_Mo_takesRoot 132 [some (.ref 53), some (.int (nI d)), some (.int (nI c)), some (.int (nI (d * d))), some (.int (nI us)), x5, x6, x7] [] (mS t ln sz sc mo be ts us lz pr fa D K Mn Mi Sc rw tp (u') lf pa) Q) :
    ∀ (e k : Nat) (u : Nat → Nat) (c : Nat) (x5 x6 x7 : Option Value), k + e = us → c ≤ 18 → (∀ j, us - k ≤ j → j < us → u j < 10) → tv (fun j => u (us - k + j)) k + c * 10 ^ k = rsum (tv rw sz) d k → zm_W l B gM m_Mo_takesRoot 34 [some (.ref 53), some (.int (nI d)), some (.int (nI c)), some (.int (nI (d * d))), some (.int (nI k)), x5, x6, x7] [] (mS t ln sz sc mo be ts us lz pr fa D K Mn Mi Sc rw tp (u) lf pa) Q := by
  have hdd : d * d ≤ 81 := Nat.mul_le_mul hd9 hd9
  intro e
  induction e with
  | zero =>
    intro k u c x5 x6 x7 hk hc h1 h2
    have e : k = us := by omega
    subst e
    rw [Nat.sub_self, tv_congr (g := fun j => u (0 + j)) (g' := u) (fun j _ => by rw [Nat.zero_add])] at h2
    refine zm_go (okm_Mo_takesRoot hG hl) [132] 200 ?_
    conv => whnf
    refine ⟨fun _ => ?_, fun z => absurd (Int32.le_refl _) z⟩
    refine ⟨?_, trivial⟩
    try dsimp only
    exact hq u c _ _ _ (by omega) (fun j hj => h1 j (by omega) hj) h2
  | succ e ih =>
    intro k u c x5 x6 x7 hk hc h1 h2
    have hgt : ∀ y x7, y ≤ 162 → y = (if k = 0 then d * d else 2 * (tv rw sz / 10 ^ (k - 1) % 10) * d) → ∀ x6 : Int32, zm_W l B gM m_Mo_takesRoot 104 [some (.ref 53), some (.int (nI d)), some (.int (nI c)), some (.int (nI (d * d))), some (.int (nI k)), some (.int (nI (us - 1 - k))), some (.int x6), x7] [.int (nI y)] (mS t ln sz sc mo be ts us lz pr fa D K Mn Mi Sc rw tp (u) lf pa) Q := by
      intro y x7 hy ey x6
      refine zm_go (okm_Mo_takesRoot hG hl) [34] 200 ?_
      conv => whnf
      rw [nI_add]
      refine ⟨by decide, ?_⟩
      conv => whnf
      refine ⟨(us - 1 - k), rfl, by omega, ?_⟩
      conv => whnf
      refine ⟨by decide, ?_⟩
      conv => whnf
      refine ⟨?_, trivial⟩
      try dsimp only
      rw [show (10 : Int32) = nI 10 from rfl, nI_rm (by omega) (by decide) (by decide), nI_dv (by omega) (by decide) (by decide), nI_1]
      rw [upd_nI]
      refine ih (k + 1) _ ((y + c) / 10) _ _ _ (by omega) (by omega) (fun j hj1 hj2 => ?_) ?_
      · by_cases q : j = us - 1 - k
        · rw [q, zu_s]; omega
        · rw [zu_n q]; exact h1 j (by omega) hj2
      · have e1 : tv (fun j => zu u (us - 1 - k) ((y + c) % 10) (us - (k + 1) + j)) (k + 1) = (y + c) % 10 * 10 ^ k + tv (fun j => u (us - k + j)) k := by
          rw [tv_first]
          congr 1
          · rw [Nat.add_zero, show us - (k + 1) = us - 1 - k by omega, zu_s]
          · exact tv_congr (fun j hj => by rw [zu_n (by omega)]; congr 1; omega)
        rw [e1, rsum_step, ← h2, ← ey, Nat.pow_succ]
        have e2 : (y + c) * 10 ^ k = ((y + c) / 10 * 10 + (y + c) % 10) * 10 ^ k := by congr 1; omega
        rw [Nat.add_mul, Nat.add_mul, Nat.mul_assoc, Nat.mul_comm 10] at e2
        omega
    refine zm_go (okm_Mo_takesRoot hG hl) [104] 200 ?_
    conv => whnf
    refine ⟨fun z => absurd ((nI_ge0 (by omega) (by omega)).mp z) (by omega), fun _ => ?_⟩
    conv => whnf
    rw [show nI us - 1 - nI k = nI (us - 1 - k) by rw [show (1 : Int32) = nI 1 from rfl, nI_sub (by omega), nI_sub (by omega)]]
    by_cases hk0 : k = 0
    · subst hk0
      refine ⟨fun _ => ?_, fun z => absurd (by decide) z⟩
      conv => whnf
      refine ⟨fun z => absurd rfl z, fun _ => ?_⟩
      conv => whnf
      refine ⟨?_, trivial⟩
      try dsimp only
      exact hgt (d * d) _ (by omega) rfl _
    · refine ⟨fun z => absurd ((nI_ltI (b := 1) (by omega) (by decide)).mp z) (by omega), fun _ => ?_⟩
      conv => whnf
      have two : ∀ x, x < 10 → x = tv rw sz / 10 ^ (k - 1) % 10 → 2 * x * d ≤ 162 := by
        intro x hx _
        have : 2 * x * d ≤ 18 * 9 := Nat.mul_le_mul (by omega) hd9
        omega
      rw [show nI k - 1 = nI (k - 1) by rw [show (1 : Int32) = nI 1 from rfl, nI_sub (by omega)]]
      by_cases hks : sz ≤ k - 1
      · have ez : tv rw sz / 10 ^ (k - 1) % 10 = 0 := by
          rw [Nat.div_eq_of_lt (Nat.lt_of_lt_of_le (tv_lt (fun i _ => hd i)) (Nat.pow_le_pow_right (by decide) hks))]
        refine ⟨fun _ => ?_, fun z => absurd ((nI_ge0 (by omega) (by omega)).mpr hks) z⟩
        conv => whnf
        refine ⟨fun _ => ?_, fun z => absurd ((nI_z (by omega)).mp z) hk0⟩
        conv => whnf
        refine ⟨?_, trivial⟩
        try dsimp only
        rw [show (2 : Int32) * 0 * nI d = nI 0 by rw [show (2 : Int32) * 0 = 0 from rfl, Int32.zero_mul]; rfl]
        exact hgt 0 _ (by omega) (by rw [if_neg hk0, ez, Nat.mul_zero, Nat.zero_mul]) _
      · have ez : tv rw sz / 10 ^ (k - 1) % 10 = rw (sz - k) := by
          have := tv_dig (g := rw) (n := sz) (k := sz - k) (by omega) (fun i _ => hd i)
          rw [show sz - 1 - (sz - k) = k - 1 by omega] at this
          exact this
        refine ⟨fun z => absurd ((nI_ge0 (by omega) (by omega)).mp z) hks, fun _ => ?_⟩
        conv => whnf
        refine ⟨(sz - k), nI_sub (by omega), by omega, ?_⟩
        conv => whnf
        refine ⟨fun _ => ?_, fun z => absurd ((nI_z (by omega)).mp z) hk0⟩
        conv => whnf
        refine ⟨?_, trivial⟩
        try dsimp only
        rw [show (2 : Int32) * nI (rw (sz - k)) * nI d = nI (2 * rw (sz - k) * d) by rw [show (2 : Int32) = nI 2 from rfl, lmul, lmul]]
        exact hgt _ _ (two _ (hd _) ez.symm) (by rw [if_neg hk0, ez]) _
/-- which is greater -/
theorem w_tr141 (hG : zd_G B) (hl : l.stackTraces = false) {d c : Nat} {x3 : Int32} {x5 x6 x7 : Option Value} (hus : us ≤ 2200) (hu : ∀ j, j < us → un j < 10) (hf : ∀ j, j < us → lf j < 10)
    (hlt : tv lf us < tv un us → Q (some (.int (bI false))) (mS t ln sz sc mo be ts us lz pr fa D K Mn Mi Sc rw tp un lf pa))
    (hge : ∀ a, tv un us ≤ tv lf us → zm_W l B gM m_Mo_takesRoot 198 [some (.ref 53), some (.int (nI d)), some (.int (nI c)), some (.int x3), some (.int a), x5, x6, x7] [] (mS t ln sz sc mo be ts us lz pr fa D K Mn Mi Sc rw tp un lf pa) Q) :
    ∀ (e k : Nat), k + e = us → (∀ j, j < k → lf j = un j) → zm_W l B gM m_Mo_takesRoot 141 [some (.ref 53), some (.int (nI d)), some (.int (nI c)), some (.int x3), some (.int (nI k)), x5, x6, x7] [] (mS t ln sz sc mo be ts us lz pr fa D K Mn Mi Sc rw tp un lf pa) Q := by
  intro e
  induction e with
  | zero =>
    intro k hk he
    have e : k = us := by omega
    subst e
    refine zm_go (okm_Mo_takesRoot hG hl) [198] 200 ?_
    conv => whnf
    refine ⟨fun _ => ?_, fun z => absurd (Int32.le_refl _) z⟩
    refine ⟨?_, trivial⟩
    try dsimp only
    exact hge _ (by rw [tv_congr he]; exact Nat.le_refl _)
  | succ e ih =>
    intro k hk he
    have d1 := hu k (by omega)
    have d2 := hf k (by omega)
    refine zm_go (okm_Mo_takesRoot hG hl) [141, 198] 200 ?_
    conv => whnf
    refine ⟨fun z => absurd ((nI_ge0 (by omega) (by omega)).mp z) (by omega), fun _ => ?_⟩
    conv => whnf
    refine ⟨k, rfl, by omega, ?_⟩
    conv => whnf
    refine ⟨k, rfl, by omega, ?_⟩
    conv => whnf
    by_cases hq1 : lf k = un k
    · refine ⟨fun _ => ?_, fun z => absurd ((nI_eq (by omega) (by omega)).mpr hq1) z⟩
      conv => whnf
      refine ⟨?_, trivial⟩
      try dsimp only
      rw [nI_1]
      refine ih (k + 1) (by omega) (fun j hj => ?_)
      by_cases q : j = k
      · rw [q]; exact hq1
      · exact he j (by omega)
    · refine ⟨fun z => absurd ((nI_eq (by omega) (by omega)).mp z) hq1, fun _ => ?_⟩
      conv => whnf
      refine ⟨k, rfl, by omega, ?_⟩
      conv => whnf
      refine ⟨k, rfl, by omega, ?_⟩
      conv => whnf
      by_cases hq2 : un k ≤ lf k
      · refine ⟨fun _ => ?_, fun z => absurd ((nI_ge0 (by omega) (by omega)).mpr hq2) z⟩
        conv => whnf
        refine ⟨?_, trivial⟩
        try dsimp only
        rw [nI_1]
        have g := hge (nI (us + 1)) (Nat.le_of_lt (first_diff_g hu hf (by omega) (fun j hj => (he j hj).symm) (by omega)))
        refine zm_go (okm_Mo_takesRoot hG hl) [198] 200 ?_
        conv => whnf
        refine ⟨fun _ => ?_, fun z => absurd ((nI_ge0 (by omega) (by omega)).mpr (by omega)) z⟩
        refine ⟨?_, trivial⟩
        try dsimp only
        exact g
      · refine ⟨fun z => absurd ((nI_ge0 (by omega) (by omega)).mp z) hq2, fun _ => ?_⟩
        conv => whnf
        exact ⟨⟨false, rfl, hlt (first_diff_g hf hu (by omega) he (by omega))⟩, trivial⟩
/-- taken away -/
theorem w_tr209 (hG : zd_G B) (hl : l.stackTraces = false) {d c : Nat} {x3 : Int32} {x7 : Option Value} (hus : us ≤ 2200) (hu : ∀ j, j < us → un j < 10) {g0 : Nat → Nat} (hle : tv un us ≤ tv g0 us)
    (hq : ∀ f', (∀ j, j < us → f' j < 10) → tv f' us = tv g0 us - tv un us → Q (some (.int (bI true))) (mS t ln sz sc mo be ts us lz pr fa D K Mn Mi Sc rw tp un (f') pa)) :
    ∀ (i : Nat) (g : Nat → Nat) (b : Nat) (x6 : Option Value), i ≤ us → b ≤ 1 → (∀ j, j < us → g j < 10) → tv g us + tv (fun j => un (i + j)) (us - i) = tv g0 us + b * 10 ^ (us - i) → zm_W l B gM m_Mo_takesRoot 209 [some (.ref 53), some (.int (nI d)), some (.int (nI c)), some (.int x3), some (.int (nI b)), some (.int (iI ((i : Int) - 1))), x6, x7] [] (mS t ln sz sc mo be ts us lz pr fa D K Mn Mi Sc rw tp un (g) pa) Q := by
  intro i
  induction i with
  | zero =>
    intro g b x6 hi hb hg hv
    rw [Nat.sub_zero, tv_congr (g := fun j => un (0 + j)) (g' := un) (fun j _ => by rw [Nat.zero_add])] at hv
    have hlt := tv_lt hg
    have hb0 : b = 0 := by
      rcases Nat.eq_zero_or_pos b with q | q
      · exact q
      · have : b = 1 := by omega
        rw [this] at hv
        omega
    rw [hb0] at hv
    refine zm_go (okm_Mo_takesRoot hG hl) [] 200 ?_
    conv => whnf
    refine ⟨fun _ => ?_, fun z => absurd (by decide) z⟩
    conv => whnf
    exact ⟨⟨true, rfl, hq g hg (by omega)⟩, trivial⟩
  | succ i ih =>
    intro g b x6 hi hb hg hv
    have ei : iI (((i + 1 : Nat) : Int) - 1) = nI i := by rw [iI_nI]; congr 1; omega
    rw [ei]
    have d1 := hu i (by omega)
    have d2 := hg i (by omega)
    have ht := tv_tail un i us (by omega)
    have hp : 10 ^ (us - i) = 10 ^ (us - i - 1) * 10 := by rw [← Nat.pow_succ]; congr 1; omega
    have key : ∀ (v b' : Nat) (x6 : Option Value), v < 10 → b' ≤ 1 → v + un i + b = g i + 10 * b' → zm_W l B gM m_Mo_takesRoot 209 [some (.ref 53), some (.int (nI d)), some (.int (nI c)), some (.int x3), some (.int (nI b')), some (.int (iI ((i : Int) - 1))), x6, x7] [] (mS t ln sz sc mo be ts us lz pr fa D K Mn Mi Sc rw tp un (zu g i v) pa) Q := by
      intro v b' x6 hv1 hb' hvv
      refine ih _ b' x6 (by omega) hb' (zu_ltn hg hv1) ?_
      have hzu := tv_zu (g := g) (n := us) (k := i) (v := v) (by omega)
      rw [show us - 1 - i = us - i - 1 by omega] at hzu
      rw [show us - (i + 1) = us - i - 1 by omega] at hv ht
      rw [ht, hp]
      have h3 : (v + un i + b) * 10 ^ (us - i - 1) = (g i + 10 * b') * 10 ^ (us - i - 1) := by rw [hvv]
      rw [Nat.add_mul, Nat.add_mul, Nat.add_mul, Nat.mul_comm 10 b', Nat.mul_assoc, Nat.mul_comm 10] at h3
      omega
    refine zm_go (okm_Mo_takesRoot hG hl) [209] 200 ?_
    conv => whnf
    refine ⟨fun z => absurd z (nI_pos (by omega)), fun _ => ?_⟩
    conv => whnf
    refine ⟨i, rfl, by omega, ?_⟩
    conv => whnf
    refine ⟨i, rfl, by omega, ?_⟩
    conv => whnf
    dsimp only
    rw [show nI (g i) - nI (un i) - nI b = iI ((g i : Int) - un i - b) by rw [iI_nI, iI_nI, iI_nI, iI_sub, iI_sub]]
    have r0 : iR 0 := ⟨by decide, by decide⟩
    have rv : iR ((g i : Int) - un i - b) := ⟨by omega, by omega⟩
    by_cases hneg : (g i : Int) - un i - b < 0
    · refine ⟨fun z => absurd ((iI_le r0 rv).mp z) (by omega), fun _ => ?_⟩
      conv => whnf
      refine ⟨i, rfl, by omega, ?_⟩
      conv => whnf
      refine ⟨fun z => absurd ((iI_le r0 rv).mp z) (by omega), fun _ => ?_⟩
      conv => whnf
      refine ⟨?_, trivial⟩
      try dsimp only
      rw [show iI ((g i : Int) - un i - b) + 10 = nI (g i + 10 - un i - b) by rw [iI_nI]; show _ + iI 10 = _; rw [iI_add]; congr 1; omega]
      rw [upd_nI]
      rw [iI_nI i, iI_m1]
      exact key (g i + 10 - un i - b) 1 _ (by omega) (by decide) (by omega)
    · refine ⟨fun _ => ?_, fun z => absurd ((iI_le r0 rv).mpr (by omega)) z⟩
      conv => whnf
      refine ⟨i, rfl, by omega, ?_⟩
      conv => whnf
      refine ⟨fun _ => ?_, fun z => absurd ((iI_le r0 rv).mpr (by omega)) z⟩
      conv => whnf
      refine ⟨?_, trivial⟩
      try dsimp only
      rw [show iI ((g i : Int) - un i - b) = nI (g i - un i - b) by rw [iI_nI]; congr 1; omega]
      rw [upd_nI]
      rw [iI_nI i, iI_m1]
      exact key (g i - un i - b) 0 _ (by omega) (by decide) (by omega)
theorem k_takesRoot (hG : zd_G B) (hl : l.stackTraces = false) {d : Nat} (hd9 : d ≤ 9) (hs : sz ≤ 2000) (hlz : lz ≤ 2200) (hlz1 : 1 ≤ lz) (hd : ∀ i, rw i < 10) (hf : ∀ j, j < lz → lf j < 10) (htop : sz = 0 ∨ 10 ^ (sz - 1) ≤ tv rw sz)
    (hn : ∀ us' u', tv lf lz < d * d + 20 * d * tv rw sz → Q (some (.int (bI false))) (mS t ln sz sc mo be ts (us') lz pr fa D K Mn Mi Sc rw tp (u') lf pa))
    (hy : ∀ us' u' f', d * d + 20 * d * tv rw sz ≤ tv lf lz → (∀ j, j < lz → f' j < 10) → tv f' lz = tv lf lz - (d * d + 20 * d * tv rw sz) → Q (some (.int (bI true))) (mS t ln sz sc mo be ts (us') lz pr fa D K Mn Mi Sc rw tp (u') (f') pa)) : zm_M l B gM m_Mo_takesRoot [.ref 53, .int (nI d)] (mS t ln sz sc mo be ts us lz pr fa D K Mn Mi Sc rw tp un lf pa) Q := by
  have hL := tv_lt hf
  have hrt : tv rw sz < 10 ^ sz := tv_lt (fun i _ => hd i)
  have main : (d = 0 ∨ sz < lz) → zm_W l B gM m_Mo_takesRoot 17 [some (.ref 53), some (.int (nI d)), none, none, none, none, none, none] [] (mS t ln sz sc mo be ts us lz pr fa D K Mn Mi Sc rw tp un lf pa) Q := by
    intro hc
    have hS : rsum (tv rw sz) d lz = d * d + 20 * d * tv rw sz := by
      unfold rsum
      rw [if_neg (by omega)]
      rcases hc with e | e
      · subst e; simp
      · rw [Nat.mod_eq_of_lt (Nat.lt_of_lt_of_le hrt (Nat.pow_le_pow_right (by decide) (by omega)))]
    refine zm_go (okm_Mo_takesRoot hG hl) [34] 200 ?_
    conv => whnf
    refine ⟨?_, trivial⟩
    try dsimp only
    rw [lmul]
    refine w_tr34 (us := lz) (x5 := none) (x6 := none) (x7 := none) hG hl hd9 hs hlz hd (fun u' c x5 x6 x7 q1 q2 q3 => ?_) lz 0 un 0 none none none (by omega) (by decide) (fun j h1 h2 => by omega) rfl
    rw [hS] at q3
    refine zm_go (okm_Mo_takesRoot hG hl) [141] 200 ?_
    conv => whnf
    by_cases hc0 : c = 0
    · subst hc0
      rw [Nat.zero_mul, Nat.add_zero] at q3
      refine ⟨fun _ => ?_, fun z => absurd (by decide) z⟩
      conv => whnf
      refine ⟨?_, trivial⟩
      try dsimp only
      refine w_tr141 (us := lz) (un := u') (d := d) (c := 0) hG hl hlz q2 hf (fun h => hn _ _ (by rw [← q3]; exact h)) (fun a h => ?_) lz 0 (by omega) (fun j hj => by omega)
      refine zm_go (okm_Mo_takesRoot hG hl) [209] 200 ?_
      conv => whnf
      refine ⟨?_, trivial⟩
      try dsimp only
      rw [show nI lz - 1 = iI ((lz : Int) - 1) by rw [iI_nI]; exact iI_sub _ 1]
      exact w_tr209 (us := lz) (un := u') (d := d) (c := 0) hG hl hlz q2 h (fun f' r1 r2 => hy _ _ _ (by rw [← q3]; exact h) r1 (by rw [r2, q3])) lz lf 0 _ (Nat.le_refl _) (by decide) hf (by rw [Nat.sub_self]; show tv lf lz + 0 = tv lf lz + 0 * 10 ^ 0; omega)
    · refine ⟨fun z => absurd z (nI_nle (by omega) (by omega)), fun _ => ?_⟩
      conv => whnf
      have : 1 * 10 ^ lz ≤ c * 10 ^ lz := Nat.mul_le_mul_right _ (by omega)
      exact ⟨⟨false, rfl, hn _ _ (by omega)⟩, trivial⟩
  refine zm_go (okm_Mo_takesRoot hG hl) [17] 200 ?_
  conv => whnf
  by_cases hd0 : d = 0
  · refine ⟨fun _ => ?_, fun z => absurd (by rw [hd0]; decide) z⟩
    refine ⟨?_, trivial⟩
    try dsimp only
    exact main (Or.inl hd0)
  · refine ⟨fun z => absurd z (nI_nle (by omega) (by omega)), fun _ => ?_⟩
    conv => whnf
    by_cases hsl : sz < lz
    · refine ⟨fun _ => ?_, fun z => absurd (nI_lt hsl (by omega)) z⟩
      refine ⟨?_, trivial⟩
      try dsimp only
      exact main (Or.inr hsl)
    · refine ⟨fun z => absurd z (nI_nlt (by omega) (by omega)), fun _ => ?_⟩
      conv => whnf
      refine ⟨⟨false, rfl, hn us un ?_⟩, trivial⟩
      have h1 : 10 ^ (sz - 1) ≤ tv rw sz := htop.resolve_left (by omega)
      have h2 : (10 : Nat) ^ lz ≤ 10 ^ sz := Nat.pow_le_pow_right (by decide) (by omega)
      have h3 : (10 : Nat) ^ sz = 10 ^ (sz - 1) * 10 := by rw [← Nat.pow_succ]; congr 1; omega
      have h4 : 1 * tv rw sz ≤ d * tv rw sz := Nat.mul_le_mul_right _ (by omega)
      rw [Nat.mul_assoc]
      omega
end KS

/-! the model: division figure by figure -/
theorem first_diff_g {g g' : Nat → Nat} {n i : Nat} (hd : ∀ j, j < n → g j < 10) (hd' : ∀ j, j < n → g' j < 10) (hi : i < n) (he : ∀ j, j < i → g j = g' j) (hl : g i < g' i) : tv g n < tv g' n := by
  have a := tv_pre (g := g) (n := n) (k := i + 1) (by omega) hd
  have b := tv_pre (g := g') (n := n) (k := i + 1) (by omega) hd'
  have c : tv g (i + 1) < tv g' (i + 1) := by
    show tv g i * 10 + g i < tv g' i * 10 + g' i
    rw [tv_congr he]
    omega
  rw [← a, ← b] at c
  exact div_lt_imp c
theorem tv_first (g : Nat → Nat) (n : Nat) : tv g (n + 1) = g 0 * 10 ^ n + tv (fun j => g (j + 1)) n := by
  have e := tv_split g 1 n
  rw [show 1 + n = n + 1 by omega] at e
  rw [e]
  congr 1
  · show (0 * 10 + g 0) * _ = _
    rw [Nat.zero_mul, Nat.zero_add]
  · exact tv_congr (fun j _ => by rw [Nat.add_comm])
theorem dg_snoc {V d : Nat} (h : V ≠ 0) (hd : d < 10) : dg (V * 10 + d) = dg V + 1 := by
  have e : dg (V * 10 + d) = if V * 10 + d < 10 then 1 else dg ((V * 10 + d) / 10) + 1 := by
    conv => lhs; unfold dg
  rw [e, if_neg (by omega), show (V * 10 + d) / 10 = V by omega]
theorem dg_1 {d : Nat} (hd : d < 10) : dg d = 1 := by
  unfold dg
  rw [if_pos hd]
/-- a quotient so far: no zero in front -/
def QN (g : Nat → Nat) (n V : Nat) : Prop := (∀ i, g i < 10) ∧ tv g n = V ∧ n = if V = 0 then 0 else dg V
theorem div_step (P U d : Nat) (hU : 0 < U) : (P * 10 + d) / U = P / U * 10 + (P % U * 10 + d) / U ∧ (P * 10 + d) % U = (P % U * 10 + d) % U := by
  have e : P * 10 + d = U * (P / U * 10) + (P % U * 10 + d) := by
    have := Nat.div_add_mod P U
    rw [← Nat.mul_assoc]
    omega
  constructor
  · rw [e, Nat.mul_add_div hU]
  · rw [e, Nat.mul_add_mod]
section KN
variable {l : Launch} {B : zd_B} {Q : Option Value → zst → Prop} {t ln sz : Nat} {sc : Int} {mo be : Bool} {ts us lz pr fa : Nat} {D K Mn : Nat → Nat} {Mi : Nat → Bool} {Sc : Nat → Int} {rw tp un lf pa : Nat → Nat}
theorem w_loadUnder (hG : zd_G B) (hl : l.stackTraces = false) {R : Nat → zr} (hR : ROk R) (hM : MR R K Mn Mi Sc) {r zn : Nat} (hr : r < 10) (hz : dg (R r).2.1 + zn ≤ 2200) (hus : us = dg (R r).2.1 + zn)
    (hq : ∀ u', (∀ j, j < us → u' j = if j < dg (R r).2.1 then K (1000 * r + j) else 0) → Q none (mS t ln sz sc mo be ts us lz pr fa D K Mn Mi Sc rw tp (u') lf pa)) :
    ∀ (d i : Nat) (u : Nat → Nat), i + d = us → (∀ j, j < i → u j = if j < dg (R r).2.1 then K (1000 * r + j) else 0) → zm_W l B gM m_Mo_loadUnder 14 [some (.ref 53), some (.int (nI r)), some (.int (nI zn)), some (.int (nI i))] [] (mS t ln sz sc mo be ts us lz pr fa D K Mn Mi Sc rw tp (u) lf pa) Q := by
  obtain ⟨mr, kr, nr, sr⟩ := hM.2 r hr
  have rr := (hR r hr).1
  intro d
  induction d with
  | zero =>
    intro i u hi h1
    have e : i = us := by omega
    rw [e]
    rw [e] at h1
    refine zm_go (okm_Mo_loadUnder hG hl) [] 200 ?_
    conv => whnf
    refine ⟨fun z => ?_, fun z => absurd (Int32.le_refl _) z⟩
    conv => whnf
    exact ⟨hq u h1, trivial⟩
  | succ d ih =>
    intro i u hi h1
    have nxt : zm_W l B gM m_Mo_loadUnder 53 [some (.ref 53), some (.int (nI r)), some (.int (nI zn)), some (.int (nI i))] [.int (nI (if i < dg (R r).2.1 then K (1000 * r + i) else 0)), .int (nI i), .ref 61] (mS t ln sz sc mo be ts us lz pr fa D K Mn Mi Sc rw tp (u) lf pa) Q := by
      refine zm_go (okm_Mo_loadUnder hG hl) [14] 200 ?_
      conv => whnf
      refine ⟨i, rfl, by omega, ?_⟩
      conv => whnf
      refine ⟨?_, trivial⟩
      try dsimp only
      rw [nI_1]
      rw [upd_nI]
      refine ih (i + 1) _ (by omega) (fun j hj => ?_)
      by_cases q : j = i
      · rw [q, zu_s]
      · rw [zu_n q]; exact h1 j (by omega)
    refine zm_go (okm_Mo_loadUnder hG hl) [53] 200 ?_
    conv => whnf
    refine ⟨fun z => absurd ((nI_ge0 (by omega) (by omega)).mp z) (by omega), fun _ => ?_⟩
    conv => whnf
    refine ⟨r, rfl, by omega, ?_⟩
    conv => whnf
    dsimp only
    rw [mr]
    by_cases q : i < dg (R r).2.1
    · rw [if_pos q] at nxt
      refine ⟨fun z => absurd ((nI_ge0 (by omega) (by omega)).mp z) (by omega), fun _ => ?_⟩
      conv => whnf
      refine ⟨(1000 * r + i), by rw [← nI_add, ← lmul]; rfl, by omega, ?_⟩
      conv => whnf
      refine ⟨?_, trivial⟩
      try dsimp only
      exact nxt
    · rw [if_neg q] at nxt
      refine ⟨fun _ => ?_, fun z => absurd ((nI_ge0 (by omega) (by omega)).mpr (by omega)) z⟩
      conv => whnf
      refine ⟨?_, trivial⟩
      try dsimp only
      exact nxt
theorem k_loadUnder (hG : zd_G B) (hl : l.stackTraces = false) {R : Nat → zr} (hR : ROk R) (hM : MR R K Mn Mi Sc) {r zn : Nat} (hr : r < 10) (hz : dg (R r).2.1 + zn ≤ 2200)
    (hq : ∀ u', (∀ j, j < dg (R r).2.1 + zn → u' j < 10) → tv u' (dg (R r).2.1 + zn) = (R r).2.1 * 10 ^ zn → Q none (mS t ln sz sc mo be ts (dg (R r).2.1 + zn) lz pr fa D K Mn Mi Sc rw tp (u') lf pa)) : zm_M l B gM m_Mo_loadUnder [.ref 53, .int (nI r), .int (nI zn)] (mS t ln sz sc mo be ts us lz pr fa D K Mn Mi Sc rw tp un lf pa) Q := by
  obtain ⟨mr, kr, nr, sr⟩ := hM.2 r hr
  refine zm_go (okm_Mo_loadUnder hG hl) [14] 200 ?_
  conv => whnf
  refine ⟨r, rfl, by omega, ?_⟩
  conv => whnf
  refine ⟨?_, trivial⟩
  try dsimp only
  rw [mr, nI_add]
  refine w_loadUnder (us := dg (R r).2.1 + zn) hG hl hR hM hr hz rfl (fun u' a1 => hq u' (fun j hj => ?_) ?_) (dg (R r).2.1 + zn) 0 un (by omega) (fun j hj => by omega)
  · rw [a1 j hj]
    split
    · exact hM.1 _
    · decide
  · have e1 : tv (fun j => u' (dg (R r).2.1 + j)) zn = 0 := tv_z.mpr (fun j hj => by rw [a1 _ (by omega), if_neg (by omega)])
    have e2 : tv u' (dg (R r).2.1) = tv (td (R r).2.1 (dg (R r).2.1)) (dg (R r).2.1) := tv_congr (fun j hj => by rw [a1 j (by omega), if_pos hj, kr j hj])
    rw [tv_split, e1, e2, tv_td (dg_lt _)]
    omega
theorem w_reaches (hG : zd_G B) (hl : l.stackTraces = false) (hs : us ≤ 2200) (hu : ∀ j, j < us → un j < 10) (hf : ∀ j, j ≤ us → lf j < 10)
    (hq : Q (some (.int (bI (decide (tv un us ≤ tv (fun j => lf (j + 1)) us))))) (mS t ln sz sc mo be ts us lz pr fa D K Mn Mi Sc rw tp un lf pa)) :
    ∀ (d i : Nat), i + d = us → (∀ j, j < i → lf (j + 1) = un j) → zm_W l B gM m_Mo_reaches 13 [some (.ref 53), some (.int (nI i))] [] (mS t ln sz sc mo be ts us lz pr fa D K Mn Mi Sc rw tp un lf pa) Q := by
  intro d
  induction d with
  | zero =>
    intro i hi he
    have e : i = us := by omega
    subst e
    rw [decide_eq_true (by rw [tv_congr (g := fun j => lf (j + 1)) he]; exact Nat.le_refl _)] at hq
    refine zm_go (okm_Mo_reaches hG hl) [] 200 ?_
    conv => whnf
    refine ⟨fun z => ?_, fun z => absurd (Int32.le_refl _) z⟩
    conv => whnf
    exact ⟨⟨true, rfl, hq⟩, trivial⟩
  | succ d ih =>
    intro i hi he
    have d1 := hu i (by omega)
    have d2 := hf (i + 1) (by omega)
    refine zm_go (okm_Mo_reaches hG hl) [13] 200 ?_
    conv => whnf
    refine ⟨fun z => absurd ((nI_ge0 (by omega) (by omega)).mp z) (by omega), fun _ => ?_⟩
    conv => whnf
    refine ⟨(i + 1), nI_1 i, by omega, ?_⟩
    conv => whnf
    refine ⟨i, rfl, by omega, ?_⟩
    conv => whnf
    refine ⟨fun z => ?_, fun z => ?_⟩
    · have z1 := (nI_eq (by omega) (by omega)).mp z
      conv => whnf
      refine ⟨?_, trivial⟩
      try dsimp only
      rw [nI_1]
      refine ih (i + 1) (by omega) (fun j hj => ?_)
      by_cases q : j = i
      · rw [q]; exact z1
      · exact he j (by omega)
    · have z1 : lf (i + 1) ≠ un i := fun q => z (by show nI _ = nI _; rw [q])
      conv => whnf
      refine ⟨(i + 1), nI_1 i, by omega, ?_⟩
      conv => whnf
      refine ⟨i, rfl, by omega, ?_⟩
      conv => whnf
      refine ⟨fun z => ?_, fun z => ?_⟩
      · have z2 := (nI_leI (by omega) (by omega)).mp z
        have := first_diff_g (g := fun j => lf (j + 1)) (g' := un) (n := us) (i := i) (fun j hj => hf _ (by omega)) hu (by omega) he (by show lf (i + 1) < un i; omega)
        rw [decide_eq_false (by omega)] at hq
        conv => whnf
        exact ⟨⟨false, rfl, hq⟩, trivial⟩
      · have z2 : ¬ lf (i + 1) ≤ un i := fun q => z ((nI_leI (by omega) (by omega)).mpr q)
        have := first_diff_g (g := un) (g' := fun j => lf (j + 1)) (n := us) (i := i) hu (fun j hj => hf _ (by omega)) (by omega) (fun j hj => (he j hj).symm) (by show un i < lf (i + 1); omega)
        rw [decide_eq_true (by omega)] at hq
        conv => whnf
        exact ⟨⟨true, rfl, hq⟩, trivial⟩
theorem k_reaches (hG : zd_G B) (hl : l.stackTraces = false) (hs : us ≤ 2200) (hu : ∀ j, j < us → un j < 10) (hf : ∀ j, j ≤ us → lf j < 10)
    (hq : Q (some (.int (bI (decide (tv un us ≤ tv lf (us + 1)))))) (mS t ln sz sc mo be ts us lz pr fa D K Mn Mi Sc rw tp un lf pa)) : zm_M l B gM m_Mo_reaches [.ref 53] (mS t ln sz sc mo be ts us lz pr fa D K Mn Mi Sc rw tp un lf pa) Q := by
  have h0 := hf 0 (by omega)
  have hU := tv_lt hu
  rw [tv_first] at hq
  refine zm_go (okm_Mo_reaches hG hl) [13] 200 ?_
  conv => whnf
  refine ⟨0, rfl, by omega, ?_⟩
  conv => whnf
  refine ⟨fun z => ?_, fun z => ?_⟩
  · have z1 := (nI_z (by omega)).mp z
    rw [z1, Nat.zero_mul, Nat.zero_add] at hq
    conv => whnf
    refine ⟨?_, trivial⟩
    try dsimp only
    exact w_reaches hG hl hs hu hf hq us 0 (by omega) (fun j hj => by omega)
  · have z1 : lf 0 ≠ 0 := fun q => z ((nI_z (by omega)).mpr q)
    have : 1 * 10 ^ us ≤ lf 0 * 10 ^ us := Nat.mul_le_mul_right _ (by omega)
    rw [decide_eq_true (by omega)] at hq
    conv => whnf
    exact ⟨⟨true, rfl, hq⟩, trivial⟩
theorem w_takeAway (hG : zd_G B) (hl : l.stackTraces = false) (hs : us ≤ 2200) (hu : ∀ j, j < us → un j < 10) {g0 : Nat → Nat} (hle : tv un us ≤ tv g0 (us + 1))
    (hq : ∀ f', (∀ j, j ≤ us → f' j < 10) → tv f' (us + 1) = tv g0 (us + 1) - tv un us → Q none (mS t ln sz sc mo be ts us lz pr fa D K Mn Mi Sc rw tp un (f') pa)) :
    ∀ (i : Nat) (g : Nat → Nat) (b : Nat) (x3 : Option Value), i ≤ us → b ≤ 1 → (∀ j, j ≤ us → g j < 10) → tv g (us + 1) + tv (fun j => un (i + j)) (us - i) = tv g0 (us + 1) + b * 10 ^ (us - i) → zm_W l B gM m_Mo_takeAway 9 [some (.ref 53), some (.int (iI (-(b : Int)))), some (.int (iI ((i : Int) - 1))), x3] [] (mS t ln sz sc mo be ts us lz pr fa D K Mn Mi Sc rw tp un (g) pa) Q := by
  intro i
  induction i with
  | zero =>
    intro g b x3 hi hb hg hv
    rw [Nat.sub_zero, tv_congr (g := fun j => un (0 + j)) (g' := un) (fun j _ => by rw [Nat.zero_add])] at hv
    have hfst := tv_first g us
    have hlt : tv (fun j => g (j + 1)) us < 10 ^ us := tv_lt (fun j hj => hg _ (by omega))
    have hg0 := hg 0 (by omega)
    have hge : b ≤ g 0 := by
      rcases Nat.lt_or_ge (g 0) b with c | c
      · have : g 0 = 0 := by omega
        have hb1 : b = 1 := by omega
        rw [this] at hfst
        rw [hb1] at hv
        omega
      · exact c
    refine zm_go (okm_Mo_takeAway hG hl) [] 200 ?_
    conv => whnf
    refine ⟨fun _ => ?_, fun z => absurd (by decide) z⟩
    conv => whnf
    refine ⟨0, rfl, by omega, ?_⟩
    conv => whnf
    refine ⟨0, rfl, by omega, ?_⟩
    conv => whnf
    dsimp only
    rw [show nI (g 0) + iI (-(b : Int)) = nI (g 0 - b) by rw [iI_nI, iI_nI, iI_add]; congr 1; omega]
    rw [upd_nI]
    refine ⟨hq _ (fun j hj => ?_) ?_, trivial⟩
    · by_cases q : j = 0
      · rw [q, zu_s]; omega
      · rw [zu_n q]; exact hg j hj
    · have hzu := tv_zu (g := g) (n := us + 1) (k := 0) (v := g 0 - b) (by omega)
      rw [show us + 1 - 1 - 0 = us by omega, Nat.sub_mul] at hzu
      have : b * 10 ^ us ≤ g 0 * 10 ^ us := Nat.mul_le_mul_right _ hge
      omega
  | succ i ih =>
    intro g b x3 hi hb hg hv
    have ei : iI (((i + 1 : Nat) : Int) - 1) = nI i := by rw [iI_nI]; congr 1; omega
    rw [ei]
    have d1 := hu i (by omega)
    have d2 := hg (i + 1) (by omega)
    have ht := tv_tail un i us (by omega)
    have hp : 10 ^ (us - i) = 10 ^ (us - i - 1) * 10 := by rw [← Nat.pow_succ]; congr 1; omega
    have key : ∀ (v b' : Nat) (x3 : Option Value), v < 10 → b' ≤ 1 → v + un i + b = g (i + 1) + 10 * b' → zm_W l B gM m_Mo_takeAway 9 [some (.ref 53), some (.int (iI (-(b' : Int)))), some (.int (iI ((i : Int) - 1))), x3] [] (mS t ln sz sc mo be ts us lz pr fa D K Mn Mi Sc rw tp un (zu g (i + 1) v) pa) Q := by
      intro v b' x3 hv1 hb' hvv
      refine ih _ b' x3 (by omega) hb' (fun j hj => ?_) ?_
      · by_cases q : j = i + 1
        · rw [q, zu_s]; exact hv1
        · rw [zu_n q]; exact hg j hj
      · have hzu := tv_zu (g := g) (n := us + 1) (k := i + 1) (v := v) (by omega)
        rw [show us + 1 - 1 - (i + 1) = us - i - 1 by omega] at hzu
        rw [show us - (i + 1) = us - i - 1 by omega] at hv ht
        rw [ht, hp]
        have h3 : (v + un i + b) * 10 ^ (us - i - 1) = (g (i + 1) + 10 * b') * 10 ^ (us - i - 1) := by rw [hvv]
        rw [Nat.add_mul, Nat.add_mul, Nat.add_mul, Nat.mul_comm 10 b', Nat.mul_assoc, Nat.mul_comm 10] at h3
        omega
    refine zm_go (okm_Mo_takeAway hG hl) [9] 200 ?_
    conv => whnf
    refine ⟨fun z => absurd z (nI_pos (by omega)), fun _ => ?_⟩
    conv => whnf
    refine ⟨(i + 1), nI_1 i, by omega, ?_⟩
    conv => whnf
    refine ⟨i, rfl, by omega, ?_⟩
    conv => whnf
    dsimp only
    rw [show nI (g (i + 1)) - nI (un i) + iI (-(b : Int)) = iI ((g (i + 1) : Int) - un i - b) by rw [iI_nI, iI_nI, iI_sub, iI_add]; rfl]
    have r0 : iR 0 := ⟨by decide, by decide⟩
    have rv : iR ((g (i + 1) : Int) - un i - b) := ⟨by omega, by omega⟩
    by_cases hneg : (g (i + 1) : Int) - un i - b < 0
    · refine ⟨fun z => absurd ((iI_le r0 rv).mp z) (by omega), fun _ => ?_⟩
      conv => whnf
      refine ⟨(i + 1), nI_1 i, by omega, ?_⟩
      conv => whnf
      refine ⟨fun z => absurd ((iI_le r0 rv).mp z) (by omega), fun _ => ?_⟩
      conv => whnf
      refine ⟨?_, trivial⟩
      try dsimp only
      rw [show iI ((g (i + 1) : Int) - un i - b) + 10 = nI (g (i + 1) + 10 - un i - b) by rw [iI_nI]; show _ + iI 10 = _; rw [iI_add]; congr 1; omega]
      rw [upd_nI]
      rw [iI_nI i, iI_m1]
      exact key (g (i + 1) + 10 - un i - b) 1 _ (by omega) (by decide) (by omega)
    · refine ⟨fun _ => ?_, fun z => absurd ((iI_le r0 rv).mpr (by omega)) z⟩
      conv => whnf
      refine ⟨(i + 1), nI_1 i, by omega, ?_⟩
      conv => whnf
      refine ⟨fun _ => ?_, fun z => absurd ((iI_le r0 rv).mpr (by omega)) z⟩
      conv => whnf
      refine ⟨?_, trivial⟩
      try dsimp only
      rw [show iI ((g (i + 1) : Int) - un i - b) = nI (g (i + 1) - un i - b) by rw [iI_nI]; congr 1; omega]
      rw [upd_nI]
      rw [iI_nI i, iI_m1]
      exact key (g (i + 1) - un i - b) 0 _ (by omega) (by decide) (by omega)
theorem k_takeAway (hG : zd_G B) (hl : l.stackTraces = false) (hs : us ≤ 2200) (hu : ∀ j, j < us → un j < 10) (hf : ∀ j, j ≤ us → lf j < 10) (hle : tv un us ≤ tv lf (us + 1))
    (hq : ∀ f', (∀ j, j ≤ us → f' j < 10) → tv f' (us + 1) = tv lf (us + 1) - tv un us → Q none (mS t ln sz sc mo be ts us lz pr fa D K Mn Mi Sc rw tp un (f') pa)) : zm_M l B gM m_Mo_takeAway [.ref 53] (mS t ln sz sc mo be ts us lz pr fa D K Mn Mi Sc rw tp un lf pa) Q := by
  refine zm_go (okm_Mo_takeAway hG hl) [9] 200 ?_
  conv => whnf
  refine ⟨?_, trivial⟩
  try dsimp only
  rw [show nI us - 1 = iI ((us : Int) - 1) by rw [iI_nI]; exact iI_sub _ 1]
  exact w_takeAway hG hl hs hu hle hq us lf 0 none (Nat.le_refl _) (by decide) hf (by rw [Nat.sub_self]; show tv lf (us + 1) + 0 = tv lf (us + 1) + 0 * 10 ^ 0; omega)
/-- taken away as often as it can be -/
theorem w_next2 (hG : zd_G B) (hl : l.stackTraces = false) (hs : us ≤ 2200) (hu : ∀ j, j < us → un j < 10) {X : Nat} {x1 : Int32} (hU : 0 < tv un us) (hX : X / tv un us < 1000)
    (hq : ∀ f', (∀ j, j ≤ us → f' j < 10) → tv f' (us + 1) = X % tv un us → Q (some (.int (nI (X / tv un us)))) (mS t ln sz sc mo be ts us lz pr fa D K Mn Mi Sc rw tp un (f') pa)) :
    ∀ (d e : Nat) (g : Nat → Nat), e + d = X / tv un us → (∀ j, j ≤ us → g j < 10) → tv g (us + 1) + e * tv un us = X → zm_W l B gM m_Mo_nextFigure 42 [some (.ref 53), some (.int x1), some (.int (nI e))] [] (mS t ln sz sc mo be ts us lz pr fa D K Mn Mi Sc rw tp un (g) pa) Q := by
  have hdm := Nat.div_add_mod X (tv un us)
  have hml := Nat.mod_lt X hU
  intro d
  induction d with
  | zero =>
    intro e g he hg hv
    have e1 : e = X / tv un us := by omega
    have e2 : tv g (us + 1) = X % tv un us := by rw [e1, Nat.mul_comm] at hv; omega
    refine zm_go (okm_Mo_nextFigure hG hl) [] 200 ?_
    conv => whnf
    refine k_reaches hG hl hs hu hg ?_
    rw [decide_eq_false (by omega)]
    conv => whnf
    refine ⟨fun _ => ?_, fun z => absurd rfl z⟩
    conv => whnf
    rw [e1]
    exact ⟨hq g hg e2, trivial⟩
  | succ d ih =>
    intro e g he hg hv
    have e1 : (e + 1) * tv un us ≤ X / tv un us * tv un us := Nat.mul_le_mul_right _ (by omega)
    rw [Nat.mul_comm (X / tv un us), Nat.add_mul, Nat.one_mul] at e1
    refine zm_go (okm_Mo_nextFigure hG hl) [42] 200 ?_
    conv => whnf
    refine k_reaches hG hl hs hu hg ?_
    rw [decide_eq_true (by omega)]
    conv => whnf
    refine ⟨fun z => absurd z (by decide), fun _ => ?_⟩
    conv => whnf
    refine k_takeAway hG hl hs hu hg (by omega) (fun f' a1 a2 => ?_)
    conv => whnf
    refine ⟨?_, trivial⟩
    try dsimp only
    rw [nI_1]
    exact ih (e + 1) f' (by omega) a1 (by rw [Nat.add_mul, Nat.one_mul]; omega)
theorem w_next1 (hG : zd_G B) (hl : l.stackTraces = false) (hs : us ≤ 2200) {x1 : Int32}
    (hq : ∀ f', (∀ j, j < us → f' j = lf (j + 1)) → zm_W l B gM m_Mo_nextFigure 30 [some (.ref 53), some (.int x1), some (.int (nI us))] [] (mS t ln sz sc mo be ts us lz pr fa D K Mn Mi Sc rw tp un (f') pa) Q) :
    ∀ (d i : Nat) (g : Nat → Nat), i + d = us → (∀ j, j < i → g j = lf (j + 1)) → (∀ j, i ≤ j → g j = lf j) → zm_W l B gM m_Mo_nextFigure 2 [some (.ref 53), some (.int x1), some (.int (nI i))] [] (mS t ln sz sc mo be ts us lz pr fa D K Mn Mi Sc rw tp un (g) pa) Q := by
  intro d
  induction d with
  | zero =>
    intro i g hi h1 h2
    have e : i = us := by omega
    rw [e] at h1 ⊢
    refine zm_go (okm_Mo_nextFigure hG hl) [30] 200 ?_
    conv => whnf
    refine ⟨fun z => ?_, fun z => absurd (Int32.le_refl _) z⟩
    refine ⟨?_, trivial⟩
    try dsimp only
    exact hq g h1
  | succ d ih =>
    intro i g hi h1 h2
    refine zm_go (okm_Mo_nextFigure hG hl) [2] 200 ?_
    conv => whnf
    refine ⟨fun z => absurd ((nI_ge0 (by omega) (by omega)).mp z) (by omega), fun _ => ?_⟩
    conv => whnf
    refine ⟨(i + 1), nI_1 i, by omega, ?_⟩
    conv => whnf
    refine ⟨i, rfl, by omega, ?_⟩
    conv => whnf
    refine ⟨?_, trivial⟩
    try dsimp only
    rw [nI_1]
    rw [upd_nI]
    refine ih (i + 1) _ (by omega) (fun j hj => ?_) (fun j hj => ?_)
    · by_cases q : j = i
      · rw [q, zu_s]; exact h2 _ (by omega)
      · rw [zu_n q]; exact h1 j (by omega)
    · rw [zu_n (by omega)]; exact h2 j (by omega)
theorem k_nextFigure (hG : zd_G B) (hl : l.stackTraces = false) (hs : us ≤ 2200) (hu : ∀ j, j < us → un j < 10) (hf : ∀ j, j ≤ us → lf j < 10) {dn : Nat} (hdn : dn < 10) (hlt : tv lf (us + 1) < tv un us)
    (hq : ∀ f', (∀ j, j ≤ us → f' j < 10) → tv f' (us + 1) = (tv lf (us + 1) * 10 + dn) % tv un us → Q (some (.int (nI ((tv lf (us + 1) * 10 + dn) / tv un us)))) (mS t ln sz sc mo be ts us lz pr fa D K Mn Mi Sc rw tp un (f') pa)) : zm_M l B gM m_Mo_nextFigure [.ref 53, .int (nI dn)] (mS t ln sz sc mo be ts us lz pr fa D K Mn Mi Sc rw tp un lf pa) Q := by
  have hU := tv_lt hu
  have hfst := tv_first lf us
  have h00 : lf 0 = 0 := by
    rcases Nat.eq_zero_or_pos (lf 0) with c | c
    · exact c
    · have : 1 * 10 ^ us ≤ lf 0 * 10 ^ us := Nat.mul_le_mul_right _ (by omega)
      omega
  rw [h00, Nat.zero_mul, Nat.zero_add] at hfst
  refine zm_go (okm_Mo_nextFigure hG hl) [2] 200 ?_
  conv => whnf
  refine ⟨?_, trivial⟩
  try dsimp only
  refine w_next1 hG hl hs (fun f' a1 => ?_) us 0 lf (by omega) (fun j hj => by omega) (fun j _ => rfl)
  refine zm_go (okm_Mo_nextFigure hG hl) [42] 200 ?_
  conv => whnf
  refine ⟨us, rfl, by omega, ?_⟩
  conv => whnf
  refine ⟨?_, trivial⟩
  try dsimp only
  rw [upd_nI]
  have hlast : tv (zu f' us dn) (us + 1) = tv lf (us + 1) * 10 + dn := by
    rw [tv_ext, tv_congr a1, ← hfst]
  have hdv : (tv lf (us + 1) * 10 + dn) / tv un us < 1000 := by
    rw [Nat.div_lt_iff_lt_mul (by omega)]
    omega
  refine w_next2 (X := tv lf (us + 1) * 10 + dn) hG hl hs hu (by omega) hdv hq ((tv lf (us + 1) * 10 + dn) / tv un us) 0 _ (by omega) (fun j hj => ?_) (by rw [hlast]; omega)
  by_cases q : j = us
  · rw [q, zu_s]; exact hdn
  · rw [zu_n q, a1 j (by omega)]; exact hf _ (by omega)
theorem w_isLeft (hG : zd_G B) (hl : l.stackTraces = false) (hs : us ≤ 2200) (hf : ∀ j, j ≤ us → lf j < 10) (hq : Q (some (.int (bI (decide (tv lf (us + 1) ≠ 0))))) (mS t ln sz sc mo be ts us lz pr fa D K Mn Mi Sc rw tp un lf pa)) :
    ∀ (d i : Nat), i + d = us + 1 → zm_W l B gM m_Mo_isLeft 4 [some (.ref 53), some (.int (bI (decide (tv lf i ≠ 0)))), some (.int (nI i))] [] (mS t ln sz sc mo be ts us lz pr fa D K Mn Mi Sc rw tp un lf pa) Q := by
  intro d
  induction d with
  | zero =>
    intro i hi
    have e : i = us + 1 := by omega
    subst e
    refine zm_go (okm_Mo_isLeft hG hl) [] 200 ?_
    conv => whnf
    refine ⟨fun z => ?_, fun z => absurd (nI_lt (by omega) (by omega)) z⟩
    conv => whnf
    exact ⟨⟨_, rfl, hq⟩, trivial⟩
  | succ d ih =>
    intro i hi
    have stp : tv lf (i + 1) = tv lf i * 10 + lf i := rfl
    have nxt := ih (i + 1) (by omega)
    rw [stp] at nxt
    have hi10 := hf i (by omega)
    refine zm_go (okm_Mo_isLeft hG hl) [4] 200 ?_
    conv => whnf
    refine ⟨fun z => absurd z (nI_nlt (by omega) (by omega)), fun z => ?_⟩
    conv => whnf
    generalize tv lf i = X at nxt ⊢
    by_cases hX : X = 0
    · subst hX
      refine ⟨fun z => absurd rfl z, fun _ => ?_⟩
      conv => whnf
      refine ⟨i, rfl, by omega, ?_⟩
      conv => whnf
      refine ⟨fun z => ?_, fun z => ?_⟩
      · have z2 := (nI_z (by omega)).mp z
        conv => whnf
        refine ⟨?_, trivial⟩
        try dsimp only
        rw [nI_1]
        rw [z2] at nxt
        exact nxt
      · have z2 : lf i ≠ 0 := fun q => z ((nI_z (by omega)).mpr q)
        conv => whnf
        refine ⟨?_, trivial⟩
        try dsimp only
        rw [nI_1]
        rw [show (decide (0 * 10 + lf i ≠ 0)) = true by simp [z2]] at nxt
        exact nxt
    · rw [show decide (X ≠ 0) = true by simp [hX]]
      rw [show (decide (X * 10 + lf i ≠ 0)) = true by simp; omega] at nxt
      refine ⟨fun _ => ?_, fun z => absurd z (by decide)⟩
      conv => whnf
      refine ⟨?_, trivial⟩
      try dsimp only
      rw [nI_1]
      exact nxt
theorem k_isLeft (hG : zd_G B) (hl : l.stackTraces = false) (hs : us ≤ 2200) (hf : ∀ j, j ≤ us → lf j < 10) (hq : Q (some (.int (bI (decide (tv lf (us + 1) ≠ 0))))) (mS t ln sz sc mo be ts us lz pr fa D K Mn Mi Sc rw tp un lf pa)) : zm_M l B gM m_Mo_isLeft [.ref 53] (mS t ln sz sc mo be ts us lz pr fa D K Mn Mi Sc rw tp un lf pa) Q := by
  refine zm_go (okm_Mo_isLeft hG hl) [4] 200 ?_
  conv => whnf
  refine ⟨?_, trivial⟩
  try dsimp only
  exact w_isLeft hG hl hs hf hq (us + 1) 0 (by omega)
theorem w_begin (hG : zd_G B) (hl : l.stackTraces = false) (hs : us ≤ 2200) (hq : ∀ f', (∀ j, j ≤ us → f' j = 0) → Q none (mS t ln (0) sc mo be ts us lz pr fa D K Mn Mi Sc rw tp un (f') pa)) :
    ∀ (d i : Nat) (g : Nat → Nat), i + d = us + 1 → (∀ j, j < i → g j = 0) → zm_W l B gM m_Mo_beginQuotient 2 [some (.ref 53), some (.int (nI i))] [] (mS t ln sz sc mo be ts us lz pr fa D K Mn Mi Sc rw tp un (g) pa) Q := by
  intro d
  induction d with
  | zero =>
    intro i g hi h1
    have e : i = us + 1 := by omega
    subst e
    refine zm_go (okm_Mo_beginQuotient hG hl) [] 200 ?_
    conv => whnf
    refine ⟨fun z => ?_, fun z => absurd (nI_lt (by omega) (by omega)) z⟩
    conv => whnf
    exact ⟨hq g (fun j hj => h1 j (by omega)), trivial⟩
  | succ d ih =>
    intro i g hi h1
    refine zm_go (okm_Mo_beginQuotient hG hl) [2] 200 ?_
    conv => whnf
    refine ⟨fun z => absurd z (nI_nlt (by omega) (by omega)), fun z => ?_⟩
    conv => whnf
    refine ⟨i, rfl, by omega, ?_⟩
    conv => whnf
    refine ⟨?_, trivial⟩
    try dsimp only
    rw [nI_1, show (0 : Int32) = nI 0 from rfl]
    rw [upd_nI]
    refine ih (i + 1) _ (by omega) (fun j hj => ?_)
    by_cases q : j = i
    · rw [q, zu_s]
    · rw [zu_n q]; exact h1 j (by omega)
theorem k_beginQuotient (hG : zd_G B) (hl : l.stackTraces = false) (hs : us ≤ 2200) (hq : ∀ f', (∀ j, j ≤ us → f' j = 0) → Q none (mS t ln (0) sc mo be ts us lz pr fa D K Mn Mi Sc rw tp un (f') pa)) : zm_M l B gM m_Mo_beginQuotient [.ref 53] (mS t ln sz sc mo be ts us lz pr fa D K Mn Mi Sc rw tp un lf pa) Q := by
  refine zm_go (okm_Mo_beginQuotient hG hl) [2] 200 ?_
  conv => whnf
  refine ⟨?_, trivial⟩
  try dsimp only
  exact w_begin hG hl hs hq (us + 1) 0 lf (by omega) (fun j hj => by omega)
theorem k_append (hG : zd_G B) (hl : l.stackTraces = false) {V d : Nat} (hs : sz ≤ 4399) (hN : QN rw sz V) (hdd : d < 10) (hq : ∀ g' n', QN g' n' (V * 10 + d) → n' ≤ sz + 1 → Q none (mS t ln (n') sc mo be ts us lz pr fa D K Mn Mi Sc (g') tp un lf pa)) : zm_M l B gM m_Mo_append [.ref 53, .int (nI d)] (mS t ln sz sc mo be ts us lz pr fa D K Mn Mi Sc rw tp un lf pa) Q := by
  obtain ⟨h1, h2, h3⟩ := hN
  have put : (0 < sz ∨ 0 < d) → QN (zu rw sz d) (sz + 1) (V * 10 + d) := by
    intro hc
    refine ⟨zu_lt h1 hdd, by rw [tv_ext, h2], ?_⟩
    by_cases e : V = 0
    · rw [if_pos e] at h3
      subst e
      subst h3
      rw [if_neg (by omega), show 0 * 10 + d = d by omega, dg_1 hdd]
    · rw [if_neg e] at h3
      rw [if_neg (by omega), dg_snoc e hdd, h3]
  refine zm_go (okm_Mo_append hG hl) [11] 200 ?_
  conv => whnf
  have body : (0 < sz ∨ 0 < d) → zm_W l B gM m_Mo_append 11 [some (.ref 53), some (.int (nI d))] [] (mS t ln sz sc mo be ts us lz pr fa D K Mn Mi Sc rw tp un lf pa) Q := by
    intro hc
    refine zm_go (okm_Mo_append hG hl) [] 200 ?_
    conv => whnf
    refine ⟨sz, rfl, by omega, ?_⟩
    conv => whnf
    rw [nI_1]
    rw [upd_nI]
    exact ⟨hq _ _ (put hc) (Nat.le_refl _), trivial⟩
  by_cases e : 0 < sz
  · refine ⟨fun _ => ?_, fun z => absurd (nI_lt (a := 0) e (by omega)) z⟩
    refine ⟨?_, trivial⟩
    try dsimp only
    exact body (Or.inl e)
  · refine ⟨fun z => absurd z (by rw [show sz = 0 by omega]; decide), fun _ => ?_⟩
    conv => whnf
    by_cases e2 : 0 < d
    · refine ⟨fun z => absurd z (nI_nle e2 (by omega)), fun _ => ?_⟩
      refine ⟨?_, trivial⟩
      try dsimp only
      exact body (Or.inr e2)
    · have e3 : d = 0 := by omega
      subst e3
      have e4 : sz = 0 := by omega
      have hV : V = 0 := by
        rw [← h2, e4]; rfl
      refine ⟨fun _ => ?_, fun z => absurd (by decide) z⟩
      conv => whnf
      refine ⟨hq rw sz ⟨h1, by rw [h2, hV], by rw [hV, e4]; rfl⟩ (by omega), trivial⟩
end KN

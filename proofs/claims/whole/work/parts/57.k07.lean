/-! the model: calls of one register -/
theorem iI_of_nat {a : Int} (h : ¬ (a < 0 ∨ 10 ≤ a)) : ∃ n : Nat, a = n ∧ n < 10 := ⟨a.toNat, by omega, by omega⟩
theorem iI_of_nat8 {a : Int} (h : ¬ (a < 0 ∨ 8 ≤ a)) : ∃ n : Nat, a = n ∧ n < 8 := ⟨a.toNat, by omega, by omega⟩
def sp_strip (V : Nat) (s : Int) : Option (Nat × Int) := some (if V = 0 then (0, 0) else (V / 10 ^ tz V, s - tz V))
theorem i32m : (-10000 : Int32) = iI (-10000) := by decide
theorem lI_0 : (0 : Int64) = lI 0 := rfl
section KH
variable {l : Launch} {B : zd_B} {Q : Option Value → zst → Prop} {t ln sz : Nat} {sc : Int} {mo be : Bool} {ts us lz pr fa : Nat} {D K Mn : Nat → Nat} {Mi : Nat → Bool} {Sc : Nat → Int} {rw tp un lf pa : Nat → Nat}
theorem k_toScale (hG : zd_G B) (hl : l.stackTraces = false) {R : Nat → zr} (hR : ROk R) (hM : MR R K Mn Mi Sc) {a to s md : Int} (ha : iR a) (hto : iR to) (hs : iR s) (hmd : iR md) (hd : ∀ i, rw i < 10)
    (hb : ((a < 0 ∨ 10 ≤ a) ∨ (to < 0 ∨ 10 ≤ to) ∨ (md < 0 ∨ 8 ≤ md) ∨ s < -10000 ∨ 10000 < s) → Q none (mS (1) ln sz sc mo be ts us lz pr fa D K Mn Mi Sc rw tp un lf pa))
    (hq : ∀ A T M : Nat, a = A → to = T → md = M → A < 10 → T < 10 → M < 8 → -10000 ≤ s → s ≤ 10000 → Res Q R T 0 ln pr 2 D pa K Mn Mi Sc (R A).1 (sp_ts (R A).2.1 (R A).2.2 s M (R A).1)) : zm_M l B gM m_Mo_toScale [.ref 53, .int (iI a), .int (iI to), .int (iI s), .int (iI md)] (mS t ln sz sc mo be ts us lz pr fa D K Mn Mi Sc rw tp un lf pa) Q := by
  have bad : ((a < 0 ∨ 10 ≤ a) ∨ (to < 0 ∨ 10 ≤ to) ∨ (md < 0 ∨ 8 ≤ md) ∨ s < -10000 ∨ 10000 < s) → zm_W l B gM m_Mo_toScale 37 [some (.ref 53), some (.int (iI a)), some (.int (iI to)), some (.int (iI s)), some (.int (iI md))] [.ref 53] (mS t ln sz sc mo be ts us lz pr fa D K Mn Mi Sc rw tp un lf pa) Q := by
    intro hc
    refine zm_go (okm_Mo_toScale hG hl) [] 200 ?_
    conv => whnf
    refine ⟨fun _ => ?_, fun z => absurd z (by decide)⟩
    conv => whnf
    exact ⟨hb hc, trivial⟩
  refine zm_go (okm_Mo_toScale hG hl) [37] 200 ?_
  conv => whnf
  refine k_no hG hl ha ?_
  by_cases ca : a < 0 ∨ 10 ≤ a
  · rw [decide_eq_true ca]
    conv => whnf
    refine ⟨fun _ => ?_, fun z => absurd z (by decide)⟩
    refine ⟨?_, trivial⟩
    try dsimp only
    exact bad (Or.inl ca)
  · rw [decide_eq_false ca]
    conv => whnf
    refine ⟨fun z => absurd rfl z, fun _ => ?_⟩
    conv => whnf
    refine k_no hG hl hto ?_
    by_cases cto : to < 0 ∨ 10 ≤ to
    · rw [decide_eq_true cto]
      conv => whnf
      refine ⟨fun _ => ?_, fun z => absurd z (by decide)⟩
      refine ⟨?_, trivial⟩
      try dsimp only
      exact bad (Or.inr (Or.inl cto))
    · rw [decide_eq_false cto]
      conv => whnf
      refine ⟨fun z => absurd rfl z, fun _ => ?_⟩
      conv => whnf
      refine k_noMode hG hl hmd ?_
      by_cases cmd : md < 0 ∨ 8 ≤ md
      · rw [decide_eq_true cmd]
        conv => whnf
        refine ⟨fun _ => ?_, fun z => absurd z (by decide)⟩
        refine ⟨?_, trivial⟩
        try dsimp only
        exact bad (Or.inr (Or.inr (Or.inl cmd)))
      · rw [decide_eq_false cmd]
        conv => whnf
        refine ⟨fun z => absurd rfl z, fun _ => ?_⟩
        conv => whnf
        by_cases c1 : s < -10000
        · refine ⟨fun _ => ?_, fun z => absurd ((iI_lt (b := -10000) hs ⟨by decide, by decide⟩).mpr c1) z⟩
          refine ⟨?_, trivial⟩
          try dsimp only
          exact bad (Or.inr (Or.inr (Or.inr (Or.inl c1))))
        · refine ⟨fun z => absurd ((iI_lt (b := -10000) hs ⟨by decide, by decide⟩).mp (by rw [← i32m]; exact z)) c1, fun _ => ?_⟩
          conv => whnf
          by_cases c2 : 10000 < s
          · refine ⟨fun z => absurd ((iI_le (b := 10000) hs ⟨by decide, by decide⟩).mp z) (by omega), fun _ => ?_⟩
            refine ⟨?_, trivial⟩
            try dsimp only
            exact bad (Or.inr (Or.inr (Or.inr (Or.inr c2))))
          · refine ⟨fun _ => ?_, fun z => absurd ((iI_le (b := 10000) hs ⟨by decide, by decide⟩).mpr (by omega)) z⟩
            conv => whnf
            obtain ⟨A, ea, la⟩ := iI_of_nat ca
            obtain ⟨T, et, lt⟩ := iI_of_nat cto
            obtain ⟨M, em, lm⟩ := iI_of_nat8 cmd
            have hqq := hq A T M ea et em la lt lm (by omega) (by omega)
            subst ea
            subst et
            subst em
            rw [← iI_nI, ← iI_nI, ← iI_nI]
            refine ⟨fun z => absurd rfl z, fun _ => ?_⟩
            conv => whnf
            have hRA := hR A la
            refine k_load hG hl hR hM la hd (fun g b1 b2 => ?_)
            conv => whnf
            rw [iI_l hs]
            refine k_bring hG hl hR hM lt lm (by omega) b1 (by omega) (by omega) rfl ?_
            rw [b2]
            refine hqq.imp (fun m hm => ?_)
            conv => whnf
            exact ⟨hm, trivial⟩
theorem k_round (hG : zd_G B) (hl : l.stackTraces = false) {R : Nat → zr} (hR : ROk R) (hM : MR R K Mn Mi Sc) {a to p md : Int} (ha : iR a) (hto : iR to) (hp : iR p) (hmd : iR md) (hd : ∀ i, rw i < 10)
    (hb : ((a < 0 ∨ 10 ≤ a) ∨ (to < 0 ∨ 10 ≤ to) ∨ (md < 0 ∨ 8 ≤ md) ∨ p < 1 ∨ 1000 < p) → Q none (mS (1) ln sz sc mo be ts us lz pr fa D K Mn Mi Sc rw tp un lf pa))
    (hq : ∀ A T M P : Nat, a = A → to = T → md = M → p = P → A < 10 → T < 10 → M < 8 → 1 ≤ P → P ≤ 1000 → Res Q R T 0 ln pr 2 D pa K Mn Mi Sc (R A).1 (fit P (R A).2.2 M (R A).1 (R A).2.1 (R A).2.2 false)) : zm_M l B gM m_Mo_round [.ref 53, .int (iI a), .int (iI to), .int (iI p), .int (iI md)] (mS t ln sz sc mo be ts us lz pr fa D K Mn Mi Sc rw tp un lf pa) Q := by
  have bad : ((a < 0 ∨ 10 ≤ a) ∨ (to < 0 ∨ 10 ≤ to) ∨ (md < 0 ∨ 8 ≤ md) ∨ p < 1 ∨ 1000 < p) → zm_W l B gM m_Mo_round 35 [some (.ref 53), some (.int (iI a)), some (.int (iI to)), some (.int (iI p)), some (.int (iI md))] [.ref 53] (mS t ln sz sc mo be ts us lz pr fa D K Mn Mi Sc rw tp un lf pa) Q := by
    intro hc
    refine zm_go (okm_Mo_round hG hl) [] 200 ?_
    conv => whnf
    refine ⟨fun _ => ?_, fun z => absurd z (by decide)⟩
    conv => whnf
    exact ⟨hb hc, trivial⟩
  refine zm_go (okm_Mo_round hG hl) [35] 200 ?_
  conv => whnf
  refine k_no hG hl ha ?_
  by_cases ca : a < 0 ∨ 10 ≤ a
  · rw [decide_eq_true ca]
    conv => whnf
    refine ⟨fun _ => ?_, fun z => absurd z (by decide)⟩
    refine ⟨?_, trivial⟩
    try dsimp only
    exact bad (Or.inl ca)
  · rw [decide_eq_false ca]
    conv => whnf
    refine ⟨fun z => absurd rfl z, fun _ => ?_⟩
    conv => whnf
    refine k_no hG hl hto ?_
    by_cases cto : to < 0 ∨ 10 ≤ to
    · rw [decide_eq_true cto]
      conv => whnf
      refine ⟨fun _ => ?_, fun z => absurd z (by decide)⟩
      refine ⟨?_, trivial⟩
      try dsimp only
      exact bad (Or.inr (Or.inl cto))
    · rw [decide_eq_false cto]
      conv => whnf
      refine ⟨fun z => absurd rfl z, fun _ => ?_⟩
      conv => whnf
      refine k_noMode hG hl hmd ?_
      by_cases cmd : md < 0 ∨ 8 ≤ md
      · rw [decide_eq_true cmd]
        conv => whnf
        refine ⟨fun _ => ?_, fun z => absurd z (by decide)⟩
        refine ⟨?_, trivial⟩
        try dsimp only
        exact bad (Or.inr (Or.inr (Or.inl cmd)))
      · rw [decide_eq_false cmd]
        conv => whnf
        refine ⟨fun z => absurd rfl z, fun _ => ?_⟩
        conv => whnf
        by_cases c1 : p < 1
        · refine ⟨fun _ => ?_, fun z => absurd ((iI_lt (b := 1) hp ⟨by decide, by decide⟩).mpr c1) z⟩
          refine ⟨?_, trivial⟩
          try dsimp only
          exact bad (Or.inr (Or.inr (Or.inr (Or.inl c1))))
        · refine ⟨fun z => absurd ((iI_lt (b := 1) hp ⟨by decide, by decide⟩).mp z) c1, fun _ => ?_⟩
          conv => whnf
          by_cases c2 : 1000 < p
          · refine ⟨fun z => absurd ((iI_le (b := 1000) hp ⟨by decide, by decide⟩).mp z) (by omega), fun _ => ?_⟩
            refine ⟨?_, trivial⟩
            try dsimp only
            exact bad (Or.inr (Or.inr (Or.inr (Or.inr c2))))
          · refine ⟨fun _ => ?_, fun z => absurd ((iI_le (b := 1000) hp ⟨by decide, by decide⟩).mpr (by omega)) z⟩
            conv => whnf
            obtain ⟨A, ea, la⟩ := iI_of_nat ca
            obtain ⟨T, et, lt⟩ := iI_of_nat cto
            obtain ⟨M, em, lm⟩ := iI_of_nat8 cmd
            obtain ⟨P, ep⟩ : ∃ P : Nat, p = P := ⟨p.toNat, by omega⟩
            have hqq := hq A T M P ea et em ep la lt lm (by omega) (by omega)
            subst ea
            subst et
            subst em
            subst ep
            rw [← iI_nI, ← iI_nI, ← iI_nI, ← iI_nI]
            refine ⟨fun z => absurd rfl z, fun _ => ?_⟩
            conv => whnf
            have hRA := hR A la
            obtain ⟨m1, m2, m3, m4⟩ := hM.2 A la
            refine k_load hG hl hR hM la hd (fun g b1 b2 => ?_)
            conv => whnf
            refine ⟨A, rfl, by omega, ?_⟩
            conv => whnf
            dsimp only
            rw [m4, iI_l ⟨by omega, by omega⟩]
            rw [fit_M (by omega) (Or.inr rfl) (Or.inl rfl)] at hqq
            refine k_toPrecision hG hl hR hM lt lm (by omega) (by omega) (by omega) b1 (by omega) (by omega) (Or.inr rfl) (Or.inl rfl) ?_
            rw [b2]
            refine hqq.imp (fun m hm => ?_)
            conv => whnf
            exact ⟨hm, trivial⟩
theorem k_strip (hG : zd_G B) (hl : l.stackTraces = false) {R : Nat → zr} (hR : ROk R) (hM : MR R K Mn Mi Sc) {a to : Int} (ha : iR a) (hto : iR to) (hd : ∀ i, rw i < 10)
    (hb : ((a < 0 ∨ 10 ≤ a) ∨ (to < 0 ∨ 10 ≤ to)) → Q none (mS (1) ln sz sc mo be ts us lz pr fa D K Mn Mi Sc rw tp un lf pa))
    (hq : ∀ A T : Nat, a = A → to = T → A < 10 → T < 10 → Res Q R T 0 ln pr 2 D pa K Mn Mi Sc (R A).1 (sp_strip (R A).2.1 (R A).2.2)) : zm_M l B gM m_Mo_strip [.ref 53, .int (iI a), .int (iI to)] (mS t ln sz sc mo be ts us lz pr fa D K Mn Mi Sc rw tp un lf pa) Q := by
  have bad : ((a < 0 ∨ 10 ≤ a) ∨ (to < 0 ∨ 10 ≤ to)) → zm_W l B gM m_Mo_strip 15 [some (.ref 53), some (.int (iI a)), some (.int (iI to)), none] [.ref 53] (mS t ln sz sc mo be ts us lz pr fa D K Mn Mi Sc rw tp un lf pa) Q := by
    intro hc
    refine zm_go (okm_Mo_strip hG hl) [] 200 ?_
    conv => whnf
    refine ⟨fun z => absurd z (by decide), fun _ => ?_⟩
    conv => whnf
    exact ⟨hb hc, trivial⟩
  refine zm_go (okm_Mo_strip hG hl) [15] 200 ?_
  conv => whnf
  refine k_no hG hl ha ?_
  by_cases ca : a < 0 ∨ 10 ≤ a
  · rw [decide_eq_true ca]
    conv => whnf
    refine ⟨fun _ => ?_, fun z => absurd z (by decide)⟩
    refine ⟨?_, trivial⟩
    try dsimp only
    exact bad (Or.inl ca)
  · rw [decide_eq_false ca]
    conv => whnf
    refine ⟨fun z => absurd rfl z, fun _ => ?_⟩
    conv => whnf
    refine k_no hG hl hto ?_
    by_cases cto : to < 0 ∨ 10 ≤ to
    · rw [decide_eq_true cto]
      conv => whnf
      refine ⟨fun z => absurd z (by decide), fun _ => ?_⟩
      refine ⟨?_, trivial⟩
      try dsimp only
      exact bad (Or.inr cto)
    · rw [decide_eq_false cto]
      conv => whnf
      refine ⟨fun _ => ?_, fun z => absurd rfl z⟩
      conv => whnf
      obtain ⟨A, ea, la⟩ := iI_of_nat ca
      obtain ⟨T, et, lt⟩ := iI_of_nat cto
      have hqq := hq A T ea et la lt
      subst ea
      subst et
      rw [← iI_nI, ← iI_nI]
      refine ⟨fun _ => ?_, fun z => absurd (by decide) z⟩
      conv => whnf
      have hRA := hR A la
      refine k_load hG hl hR hM la hd (fun g b1 b2 => ?_)
      have t0 := top0 b1 b2
      have h0 := b1 0
      conv => whnf
      refine ⟨0, rfl, by omega, ?_⟩
      conv => whnf
      unfold sp_strip at hqq
      by_cases ez : (R A).2.1 = 0
      · rw [if_pos ez] at hqq
        refine ⟨fun z => absurd ((nI_z (by omega)).mpr (t0.mpr ez)) z, fun _ => ?_⟩
        conv => whnf
        rw [lI_0]
        refine k_storeA hG hl hR hM lt (by omega) b1 (by omega) ?_
        rw [b2, ez]
        refine hqq.imp (fun m hm => ?_)
        conv => whnf
        exact ⟨hm, trivial⟩
      · rw [if_neg ez] at hqq
        have htz := tz_lt_dg ez
        refine ⟨fun _ => ?_, fun z => absurd (t0.mp ((nI_z (by omega)).mp z)) ez⟩
        conv => whnf
        refine k_needed hG hl (by omega) b1 (by rw [b2]; exact ez) ?_
        rw [b2]
        conv => whnf
        rw [nI_sub (a := dg (R A).2.1) (b := dg (R A).2.1 - tz (R A).2.1) (by omega), show dg (R A).2.1 - (dg (R A).2.1 - tz (R A).2.1) = tz (R A).2.1 by omega, iI_nI (tz (R A).2.1), iI_l ⟨by omega, by omega⟩, lI_sub]
        refine k_storeA hG hl hR hM lt (by omega) b1 (by omega) ?_
        rw [tv_cutpre b1 (n := dg (R A).2.1) (by omega), b2, show dg (R A).2.1 - (dg (R A).2.1 - tz (R A).2.1) = tz (R A).2.1 by omega]
        refine hqq.imp (fun m hm => ?_)
        conv => whnf
        exact ⟨hm, trivial⟩
theorem k_shift (hG : zd_G B) (hl : l.stackTraces = false) {R : Nat → zr} (hR : ROk R) (hM : MR R K Mn Mi Sc) {a to n : Int} (ha : iR a) (hto : iR to) (hn : iR n) (hd : ∀ i, rw i < 10)
    (hb : ((a < 0 ∨ 10 ≤ a) ∨ (to < 0 ∨ 10 ≤ to)) → Q none (mS (1) ln sz sc mo be ts us lz pr fa D K Mn Mi Sc rw tp un lf pa))
    (hq : ∀ A T : Nat, a = A → to = T → A < 10 → T < 10 → Res Q R T 0 ln pr 2 D pa K Mn Mi Sc (R A).1 (some ((R A).2.1, (R A).2.2 - n))) : zm_M l B gM m_Mo_shift [.ref 53, .int (iI a), .int (iI to), .int (iI n)] (mS t ln sz sc mo be ts us lz pr fa D K Mn Mi Sc rw tp un lf pa) Q := by
  have bad : ((a < 0 ∨ 10 ≤ a) ∨ (to < 0 ∨ 10 ≤ to)) → zm_W l B gM m_Mo_shift 15 [some (.ref 53), some (.int (iI a)), some (.int (iI to)), some (.int (iI n))] [.ref 53] (mS t ln sz sc mo be ts us lz pr fa D K Mn Mi Sc rw tp un lf pa) Q := by
    intro hc
    refine zm_go (okm_Mo_shift hG hl) [] 200 ?_
    conv => whnf
    refine ⟨fun _ => ?_, fun z => absurd z (by decide)⟩
    conv => whnf
    exact ⟨hb hc, trivial⟩
  refine zm_go (okm_Mo_shift hG hl) [15] 200 ?_
  conv => whnf
  refine k_no hG hl ha ?_
  by_cases ca : a < 0 ∨ 10 ≤ a
  · rw [decide_eq_true ca]
    conv => whnf
    refine ⟨fun _ => ?_, fun z => absurd z (by decide)⟩
    refine ⟨?_, trivial⟩
    try dsimp only
    exact bad (Or.inl ca)
  · rw [decide_eq_false ca]
    conv => whnf
    refine ⟨fun z => absurd rfl z, fun _ => ?_⟩
    conv => whnf
    refine k_no hG hl hto ?_
    by_cases cto : to < 0 ∨ 10 ≤ to
    · rw [decide_eq_true cto]
      conv => whnf
      refine ⟨fun z => absurd z (by decide), fun _ => ?_⟩
      refine ⟨?_, trivial⟩
      try dsimp only
      exact bad (Or.inr cto)
    · rw [decide_eq_false cto]
      conv => whnf
      refine ⟨fun _ => ?_, fun z => absurd rfl z⟩
      conv => whnf
      obtain ⟨A, ea, la⟩ := iI_of_nat ca
      obtain ⟨T, et, lt⟩ := iI_of_nat cto
      have hqq := hq A T ea et la lt
      have hn1 := hn.1
      have hn2 := hn.2
      subst ea
      subst et
      rw [← iI_nI, ← iI_nI]
      refine ⟨fun z => absurd rfl z, fun _ => ?_⟩
      conv => whnf
      have hRA := hR A la
      refine k_load hG hl hR hM la hd (fun g b1 b2 => ?_)
      conv => whnf
      rw [iI_l hn, lI_sub]
      refine k_storeA hG hl hR hM lt (by omega) b1 (by omega) ?_
      rw [b2]
      refine hqq.imp (fun m hm => ?_)
      conv => whnf
      exact ⟨hm, trivial⟩
theorem k_negate (hG : zd_G B) (hl : l.stackTraces = false) {R : Nat → zr} (hR : ROk R) (hM : MR R K Mn Mi Sc) {a to : Int} (ha : iR a) (hto : iR to) (hd : ∀ i, rw i < 10)
    (hb : ((a < 0 ∨ 10 ≤ a) ∨ (to < 0 ∨ 10 ≤ to)) → Q none (mS (1) ln sz sc mo be ts us lz pr fa D K Mn Mi Sc rw tp un lf pa))
    (hq : ∀ A T : Nat, a = A → to = T → A < 10 → T < 10 → Res Q R T 0 ln pr 2 D pa K Mn Mi Sc (!(R A).1) (some ((R A).2.1, (R A).2.2))) : zm_M l B gM m_Mo_negate [.ref 53, .int (iI a), .int (iI to)] (mS t ln sz sc mo be ts us lz pr fa D K Mn Mi Sc rw tp un lf pa) Q := by
  have bad : ((a < 0 ∨ 10 ≤ a) ∨ (to < 0 ∨ 10 ≤ to)) → zm_W l B gM m_Mo_negate 15 [some (.ref 53), some (.int (iI a)), some (.int (iI to))] [.ref 53] (mS t ln sz sc mo be ts us lz pr fa D K Mn Mi Sc rw tp un lf pa) Q := by
    intro hc
    refine zm_go (okm_Mo_negate hG hl) [] 200 ?_
    conv => whnf
    refine ⟨fun _ => ?_, fun z => absurd z (by decide)⟩
    conv => whnf
    exact ⟨hb hc, trivial⟩
  refine zm_go (okm_Mo_negate hG hl) [15] 200 ?_
  conv => whnf
  refine k_no hG hl ha ?_
  by_cases ca : a < 0 ∨ 10 ≤ a
  · rw [decide_eq_true ca]
    conv => whnf
    refine ⟨fun _ => ?_, fun z => absurd z (by decide)⟩
    refine ⟨?_, trivial⟩
    try dsimp only
    exact bad (Or.inl ca)
  · rw [decide_eq_false ca]
    conv => whnf
    refine ⟨fun z => absurd rfl z, fun _ => ?_⟩
    conv => whnf
    refine k_no hG hl hto ?_
    by_cases cto : to < 0 ∨ 10 ≤ to
    · rw [decide_eq_true cto]
      conv => whnf
      refine ⟨fun z => absurd z (by decide), fun _ => ?_⟩
      refine ⟨?_, trivial⟩
      try dsimp only
      exact bad (Or.inr cto)
    · rw [decide_eq_false cto]
      conv => whnf
      refine ⟨fun _ => ?_, fun z => absurd rfl z⟩
      conv => whnf
      obtain ⟨A, ea, la⟩ := iI_of_nat ca
      obtain ⟨T, et, lt⟩ := iI_of_nat cto
      have hqq := hq A T ea et la lt
      subst ea
      subst et
      rw [← iI_nI, ← iI_nI]
      refine ⟨fun z => absurd rfl z, fun _ => ?_⟩
      conv => whnf
      have hRA := hR A la
      refine k_load hG hl hR hM la hd (fun g b1 b2 => ?_)
      conv => whnf
      cases hb1 : (R A).1
      · rw [hb1] at hqq
        refine ⟨fun z => absurd rfl z, fun _ => ?_⟩
        conv => whnf
        refine ⟨true, rfl, ?_⟩
        conv => whnf
        refine k_storeA hG hl hR hM lt (by omega) b1 (by omega) ?_
        rw [b2]
        refine hqq.imp (fun m hm => ?_)
        conv => whnf
        exact ⟨hm, trivial⟩
      · rw [hb1] at hqq
        refine ⟨fun _ => ?_, fun z => absurd z (by decide)⟩
        conv => whnf
        refine ⟨false, rfl, ?_⟩
        conv => whnf
        refine k_storeA hG hl hR hM lt (by omega) b1 (by omega) ?_
        rw [b2]
        refine hqq.imp (fun m hm => ?_)
        conv => whnf
        exact ⟨hm, trivial⟩
end KH

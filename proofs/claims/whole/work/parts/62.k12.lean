/-! the model: multiply, power -/
theorem pow_mono {a m n : Nat} (h : m ≤ n) (ha : 0 < a) : a ^ m ≤ a ^ n := Nat.pow_le_pow_right ha h
section KM
variable {l : Launch} {B : zd_B} {Q : Option Value → zst → Prop} {t ln sz : Nat} {sc : Int} {mo be : Bool} {ts us lz pr fa : Nat} {D K Mn : Nat → Nat} {Mi : Nat → Bool} {Sc : Nat → Int} {rw tp un lf pa : Nat → Nat}
theorem k_multiply (hG : zd_G B) (hl : l.stackTraces = false) {R : Nat → zr} (hR : ROk R) (hM : MR R K Mn Mi Sc) {a b to : Int} (ha : iR a) (hb2 : iR b) (hto : iR to) (hd : ∀ i, rw i < 10)
    (hb : ((a < 0 ∨ 10 ≤ a) ∨ (b < 0 ∨ 10 ≤ b) ∨ (to < 0 ∨ 10 ≤ to)) → Q none (mS (1) ln sz sc mo be ts us lz pr fa D K Mn Mi Sc rw tp un lf pa))
    (hq : ∀ A C T : Nat, a = A → b = C → to = T → A < 10 → C < 10 → T < 10 → Res Q R T 0 ln pr 2 D pa K Mn Mi Sc ((R A).1 != (R C).1) (some ((R A).2.1 * (R C).2.1, (R A).2.2 + (R C).2.2))) : zm_M l B gM m_Mo_multiply [.ref 53, .int (iI a), .int (iI b), .int (iI to)] (mS t ln sz sc mo be ts us lz pr fa D K Mn Mi Sc rw tp un lf pa) Q := by
  have bad : ((a < 0 ∨ 10 ≤ a) ∨ (b < 0 ∨ 10 ≤ b) ∨ (to < 0 ∨ 10 ≤ to)) → zm_W l B gM m_Mo_multiply 22 [some (.ref 53), some (.int (iI a)), some (.int (iI b)), some (.int (iI to))] [.ref 53] (mS t ln sz sc mo be ts us lz pr fa D K Mn Mi Sc rw tp un lf pa) Q := by
    intro hc
    refine zm_go (okm_Mo_multiply hG hl) [] 200 ?_
    conv => whnf
    refine ⟨fun z => absurd z (by decide), fun _ => ?_⟩
    conv => whnf
    exact ⟨hb hc, trivial⟩
  refine zm_go (okm_Mo_multiply hG hl) [22] 200 ?_
  conv => whnf
  refine k_no hG hl ha ?_
  by_cases ca : a < 0 ∨ 10 ≤ a
  · rw [decide_eq_true ca]
    conv => whnf
    refine ⟨fun _ => ?_, fun z => absurd z (by decide)⟩
    refine ⟨?_, trivial⟩
    try dsimp only
    exact bad (Or.inl ca)
  · rw [decide_eq_false ca]
    conv => whnf
    refine ⟨fun z => absurd rfl z, fun _ => ?_⟩
    conv => whnf
    refine k_no hG hl hb2 ?_
    by_cases cb : b < 0 ∨ 10 ≤ b
    · rw [decide_eq_true cb]
      conv => whnf
      refine ⟨fun _ => ?_, fun z => absurd z (by decide)⟩
      refine ⟨?_, trivial⟩
      try dsimp only
      exact bad (Or.inr (Or.inl cb))
    · rw [decide_eq_false cb]
      conv => whnf
      refine ⟨fun z => absurd rfl z, fun _ => ?_⟩
      conv => whnf
      refine k_no hG hl hto ?_
      by_cases cto : to < 0 ∨ 10 ≤ to
      · rw [decide_eq_true cto]
        conv => whnf
        refine ⟨fun z => absurd z (by decide), fun _ => ?_⟩
        refine ⟨?_, trivial⟩
        try dsimp only
        exact bad (Or.inr (Or.inr cto))
      · rw [decide_eq_false cto]
        conv => whnf
        refine ⟨fun _ => ?_, fun z => absurd rfl z⟩
        conv => whnf
        obtain ⟨A, ea, la⟩ := iI_of_nat ca
        obtain ⟨C, eb, lb⟩ := iI_of_nat cb
        obtain ⟨T, et, lt⟩ := iI_of_nat cto
        have hqq := hq A C T ea eb et la lb lt
        subst ea
        subst eb
        subst et
        rw [← iI_nI, ← iI_nI, ← iI_nI]
        refine ⟨fun _ => ?_, fun z => absurd (by decide) z⟩
        conv => whnf
        have hRA := hR A la
        have hRC := hR C lb
        refine k_load hG hl hR hM la hd (fun g b1 b2 => ?_)
        conv => whnf
        refine k_times hG hl hR hM lb (by omega) b1 (by omega) (fun g2 t2 c1 c2 => ?_)
        rw [b2] at c2 ⊢
        conv => whnf
        by_cases q : dg ((R A).2.1 * (R C).2.1) ≤ 1000
        · rw [decide_eq_true q]
          refine ⟨fun z => absurd z (by decide), fun _ => ?_⟩
          conv => whnf
          refine k_storeA hG hl hR hM lt (by omega) c1 (by omega) ?_
          rw [c2]
          refine (hqq.sg (fun V s e => ?_)).imp (fun m hm => ?_)
          · rw [fin_some] at e
            split at e
            · cases e
              cases ((R A).1 != (R C).1) <;> simp
            · cases e
          · conv => whnf
            exact ⟨hm, trivial⟩
        · rw [decide_eq_false q]
          refine ⟨fun _ => ?_, fun z => absurd rfl z⟩
          conv => whnf
          exact ⟨hqq.2 (by rw [fin_some, if_neg (fun w => q w.1)]) _ _ _ _ _ _ _ _ _ _ _ c1, trivial⟩
/-- the power, one factor more each time -/
theorem w_power (hG : zd_G B) (hl : l.stackTraces = false) {R : Nat → zr} (hR : ROk R) (hM : MR R K Mn Mi Sc) {A n T : Nat} (la : A < 10) (lt : T < 10) (hn : n ≤ 999) (ht : t = 0) (hfa : fa = 2)
    (hq : Res Q R T 0 ln pr 2 D pa K Mn Mi Sc ((R A).1 && decide (n % 2 = 1)) (some ((R A).2.1 ^ n, n * (R A).2.2))) :
    ∀ (d k : Nat) (g tq : Nat → Nat) (sz : Nat) (mo be : Bool), k + d = n → (∀ i, g i < 10) → tv g sz = (R A).2.1 ^ k → sz ≤ 1000 → (be && decide ((R A).2.1 ^ k ≠ 0)) = (((R A).1 && decide (k % 2 = 1)) && decide ((R A).2.1 ^ k ≠ 0)) → zm_W l B gM m_Mo_power 77 [some (.ref 53), some (.int (nI A)), some (.int (nI n)), some (.int (nI T)), some (.int (nI k))] [] (mS t ln sz (k * (R A).2.2) mo be ts us lz pr fa D K Mn Mi Sc (g) (tq) un lf pa) Q := by
  have hRA := hR A la
  subst ht
  subst hfa
  intro d
  induction d with
  | zero =>
    intro k g tq sz mo be hk h1 h2 h3 h4
    have e : k = n := by omega
    subst e
    have hsc : -10000000 ≤ (k : Int) * (R A).2.2 ∧ (k : Int) * (R A).2.2 ≤ 10000000 := by
      constructor
      · have := Int.mul_le_mul_of_nonneg_left (c := (k : Int)) hRA.2.1 (by omega); omega
      · have := Int.mul_le_mul_of_nonneg_left (c := (k : Int)) hRA.2.2.1 (by omega); omega
    refine zm_go (okm_Mo_power hG hl) [] 200 ?_
    conv => whnf
    refine ⟨fun _ => ?_, fun z => absurd (Int32.le_refl _) z⟩
    conv => whnf
    refine k_storeA hG hl hR hM lt (by omega) h1 (by omega) ?_
    rw [h2]
    refine (hq.sg (fun V s e => ?_)).imp (fun m hm => ?_)
    · rw [fin_some] at e
      split at e
      · cases e; exact h4.symm
      · cases e
    · conv => whnf
      exact ⟨hm, trivial⟩
  | succ d ih =>
    intro k g tq sz mo be hk h1 h2 h3 h4
    have hsc : -10000000 ≤ (k : Int) * (R A).2.2 ∧ (k : Int) * (R A).2.2 ≤ 10000000 := by
      constructor
      · have := Int.mul_le_mul_of_nonneg_left (c := (k : Int)) hRA.2.1 (by omega); omega
      · have := Int.mul_le_mul_of_nonneg_left (c := (k : Int)) hRA.2.2.1 (by omega); omega
    refine zm_go (okm_Mo_power hG hl) [77] 200 ?_
    conv => whnf
    refine ⟨fun z => absurd ((nI_ge0 (by omega) (by omega)).mp z) (by omega), fun _ => ?_⟩
    conv => whnf
    refine k_times hG hl hR hM la (by omega) h1 (by omega) (fun g2 t2 c1 c2 => ?_)
    rw [h2, ← Nat.pow_succ] at c2 ⊢
    conv => whnf
    by_cases q : dg ((R A).2.1 ^ (k + 1)) ≤ 1000
    · rw [decide_eq_true q]
      refine ⟨fun _ => ?_, fun z => absurd z (by decide)⟩
      conv => whnf
      refine ⟨?_, trivial⟩
      try dsimp only
      rw [nI_1, show (k : Int) * (R A).2.2 + (R A).2.2 = ((k + 1 : Nat) : Int) * (R A).2.2 by rw [show ((k + 1 : Nat) : Int) = (k : Int) + 1 from rfl, Int.add_mul, Int.one_mul]]
      refine ih (k + 1) g2 t2 _ _ _ (by omega) c1 c2 q ?_
      by_cases z0 : (R A).2.1 = 0
      · rw [z0, Nat.zero_pow (by omega)]; simp
      · have zk : (R A).2.1 ^ k ≠ 0 := Nat.ne_of_gt (Nat.pow_pos (by omega))
        have zk1 : (R A).2.1 ^ (k + 1) ≠ 0 := Nat.ne_of_gt (Nat.pow_pos (by omega))
        rw [decide_eq_true zk, Bool.and_true, Bool.and_true] at h4
        rw [h4, decide_eq_true zk1, Bool.and_true, Bool.and_true, Bool.and_true]
        rcases Nat.mod_two_eq_zero_or_one k with m | m
        · rw [show (k + 1) % 2 = 1 by omega, m]; cases (R A).1 <;> rfl
        · rw [show (k + 1) % 2 = 0 by omega, m]; cases (R A).1 <;> rfl
    · rw [decide_eq_false q]
      refine ⟨fun z => absurd rfl z, fun _ => ?_⟩
      conv => whnf
      refine ⟨hq.2 ?_ _ _ _ _ _ _ _ _ _ _ _ c1, trivial⟩
      rw [fin_some, if_neg]
      intro w
      have hpos : 0 < (R A).2.1 := Nat.pos_of_ne_zero (fun z => q (by rw [z, Nat.zero_pow (by omega), dg_0]; decide))
      have := dg_mono (pow_mono (a := (R A).2.1) (m := k + 1) (n := n) (by omega) hpos)
      omega
theorem k_power (hG : zd_G B) (hl : l.stackTraces = false) {R : Nat → zr} (hR : ROk R) (hM : MR R K Mn Mi Sc) {a n to : Int} (ha : iR a) (hn : iR n) (hto : iR to) (hd : ∀ i, rw i < 10)
    (hb : ((a < 0 ∨ 10 ≤ a) ∨ (to < 0 ∨ 10 ≤ to) ∨ n < 0 ∨ 999 < n) → Q none (mS (1) ln sz sc mo be ts us lz pr fa D K Mn Mi Sc rw tp un lf pa))
    (hq : ∀ A N T : Nat, a = A → n = N → to = T → A < 10 → N ≤ 999 → T < 10 → Res Q R T 0 ln pr 2 D pa K Mn Mi Sc ((R A).1 && decide (N % 2 = 1)) (some ((R A).2.1 ^ N, N * (R A).2.2))) : zm_M l B gM m_Mo_power [.ref 53, .int (iI a), .int (iI n), .int (iI to)] (mS t ln sz sc mo be ts us lz pr fa D K Mn Mi Sc rw tp un lf pa) Q := by
  have bad : ((a < 0 ∨ 10 ≤ a) ∨ (to < 0 ∨ 10 ≤ to) ∨ n < 0 ∨ 999 < n) → zm_W l B gM m_Mo_power 26 [some (.ref 53), some (.int (iI a)), some (.int (iI n)), some (.int (iI to)), none] [.ref 53] (mS t ln sz sc mo be ts us lz pr fa D K Mn Mi Sc rw tp un lf pa) Q := by
    intro hc
    refine zm_go (okm_Mo_power hG hl) [] 200 ?_
    conv => whnf
    refine ⟨fun z => absurd z (by decide), fun _ => ?_⟩
    conv => whnf
    exact ⟨hb hc, trivial⟩
  refine zm_go (okm_Mo_power hG hl) [26, 77] 200 ?_
  conv => whnf
  refine k_no hG hl ha ?_
  by_cases ca : a < 0 ∨ 10 ≤ a
  · rw [decide_eq_true ca]
    conv => whnf
    refine ⟨fun _ => ?_, fun z => absurd z (by decide)⟩
    refine ⟨?_, trivial⟩
    try dsimp only
    exact bad (Or.inl ca)
  · rw [decide_eq_false ca]
    conv => whnf
    refine ⟨fun z => absurd rfl z, fun _ => ?_⟩
    conv => whnf
    refine k_no hG hl hto ?_
    by_cases cto : to < 0 ∨ 10 ≤ to
    · rw [decide_eq_true cto]
      conv => whnf
      refine ⟨fun _ => ?_, fun z => absurd z (by decide)⟩
      refine ⟨?_, trivial⟩
      try dsimp only
      exact bad (Or.inr (Or.inl cto))
    · rw [decide_eq_false cto]
      conv => whnf
      refine ⟨fun z => absurd rfl z, fun _ => ?_⟩
      conv => whnf
      by_cases c1 : n < 0
      · refine ⟨fun _ => ?_, fun z => absurd ((iI_lt (b := 0) hn ⟨by decide, by decide⟩).mpr c1) z⟩
        refine ⟨?_, trivial⟩
        try dsimp only
        exact bad (Or.inr (Or.inr (Or.inl c1)))
      · refine ⟨fun z => absurd ((iI_lt (b := 0) hn ⟨by decide, by decide⟩).mp z) c1, fun _ => ?_⟩
        conv => whnf
        by_cases c2 : 999 < n
        · refine ⟨fun z => absurd ((iI_le (b := 999) hn ⟨by decide, by decide⟩).mp z) (by omega), fun _ => ?_⟩
          refine ⟨?_, trivial⟩
          try dsimp only
          exact bad (Or.inr (Or.inr (Or.inr c2)))
        · refine ⟨fun _ => ?_, fun z => absurd ((iI_le (b := 999) hn ⟨by decide, by decide⟩).mpr (by omega)) z⟩
          conv => whnf
          obtain ⟨A, ea, la⟩ := iI_of_nat ca
          obtain ⟨T, et, lt⟩ := iI_of_nat cto
          obtain ⟨N, en⟩ : ∃ N : Nat, n = N := ⟨n.toNat, by omega⟩
          have hqq := hq A N T ea en et la (by omega) lt
          subst ea
          subst en
          subst et
          rw [← iI_nI, ← iI_nI, ← iI_nI]
          refine ⟨fun _ => ?_, fun z => absurd (by decide) z⟩
          conv => whnf
          refine ⟨0, rfl, by omega, ?_⟩
          conv => whnf
          refine ⟨false, rfl, ?_⟩
          conv => whnf
          refine ⟨false, rfl, ?_⟩
          conv => whnf
          refine ⟨?_, trivial⟩
          try dsimp only
          rw [show (1 : Int32) = nI 1 from rfl]
          rw [upd_nI]
          rw [show (0 : Int64) = lI 0 from rfl]
          have w := w_power (Q := Q) (t := 0) (ln := ln) (ts := ts) (us := us) (lz := lz) (pr := pr) (fa := 2) (D := D) (un := un) (lf := lf) (pa := pa) hG hl hR hM la lt (by omega) rfl rfl hqq N 0 (zu rw 0 1) tp 1 false false (by omega) (zu_lt hd (by decide)) (by rw [Nat.pow_zero]; show 0 * 10 + zu rw 0 1 0 = 1; rw [zu_s]) (by decide) (by simp)
          rw [show ((0 : Nat) : Int) * (R A).2.2 = 0 by rw [show ((0 : Nat) : Int) = 0 from rfl, Int.zero_mul]] at w
          exact w
end KM

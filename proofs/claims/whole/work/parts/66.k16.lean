/-! the model: quotient, its loops -/
section KQ
variable {l : Launch} {B : zd_B} {Q : Option Value → zst → Prop} {t ln sz : Nat} {sc : Int} {mo be : Bool} {ts us lz pr fa : Nat} {D K Mn : Nat → Nat} {Mi : Nat → Bool} {Sc : Nat → Int} {rw tp un lf pa : Nat → Nat}
/-- behind the figures -/
theorem w_quo203 (hG : zd_G B) (hl : l.stackTraces = false) {R : Nat → zr} (hR : ROk R) (hM : MR R K Mn Mi Sc) {A C T M P : Nat} {wi : Int} (la : A < 10) (lb : C < 10) (lt : T < 10) (lm : M < 8) (lp : P ≤ 1000) (hC : (R C).2.1 ≠ 0) (ht : t = 0) (hfa : fa = 2) (hwi : wi = (R A).2.2 - (R C).2.2) (hus : us = dg (R C).2.1) (hu : ∀ j, j < us → un j < 10) (hU : tv un us = (R C).2.1) {x9 : Int32} {j V : Nat} (hj : j ≤ 3000) (hsz2 : sz ≤ 3300) (hsc : sc = wi + j) (hN : QN rw sz V) (hV : V = (R A).2.1 * 10 ^ j / (R C).2.1) (hf : ∀ i, i ≤ us → lf i < 10) (hL : tv lf (us + 1) = (R A).2.1 * 10 ^ j % (R C).2.1) (hend : (R A).2.1 * 10 ^ j % (R C).2.1 = 0 ∨ (if P = 0 then 1000 else P) < sz)
    (hq : Res Q R T 0 ln pr 2 D pa K Mn Mi Sc ((R A).1 != (R C).1) (sp_quo (R A) (R C) P M)) : zm_W l B gM m_Mo_quotient 203 [some (.ref 53), some (.int (nI A)), some (.int (nI C)), some (.int (nI T)), some (.int (nI P)), some (.int (nI M)), some (.long (lI wi)), none, some (.int (nI (if P = 0 then 1000 else P))), some (.int x9), none, none] [] (mS t ln sz sc mo be ts us lz pr fa D K Mn Mi Sc rw tp un lf pa) Q := by
  obtain ⟨ma, ka, na, sa⟩ := hM.2 A la
  obtain ⟨mb, kb, nb, sb⟩ := hM.2 C lb
  obtain ⟨ra, ra2, ra3, -⟩ := hR A la
  obtain ⟨rb, rb2, rb3, -⟩ := hR C lb
  obtain ⟨n1, n2, n3⟩ := hN
  have fin : ∀ (g : Nat → Nat) (n : Nat), (∀ i, g i < 10) → 1 ≤ n → n ≤ 3300 → tv g n = V → (V ≠ 0 → g 0 ≠ 0) → zm_W l B gM m_Mo_quotient 254 [some (.ref 53), some (.int (nI A)), some (.int (nI C)), some (.int (nI T)), some (.int (nI P)), some (.int (nI M)), some (.long (lI wi)), none, some (.int (nI (if P = 0 then 1000 else P))), some (.int x9), none, none] [] (mS t ln (n) sc (decide ((R A).2.1 * 10 ^ j % (R C).2.1 ≠ 0)) (((R A).1 != (R C).1)) ts us lz pr fa D K Mn Mi Sc (g) tp un lf pa) Q := by
    intro g n g1 g2 g3 g4 g5
    refine w_quo254 (sz := n) (rw := g) hG hl hR hM la lb lt lm lp g2 g3 g1 hC ht hfa hwi hsc hj rfl (by rw [g4]; exact g5) (by rw [g4, hV]) rfl ?_ ?_ hq
    · rcases hend with e | e
      · exact Or.inl (by simp [e])
      · refine Or.inr ?_
        rw [g4]
        by_cases z : V = 0
        · rw [if_pos z] at n3; omega
        · rw [if_neg z] at n3; omega
    · rcases hend with e | e
      · exact Or.inr (by simp [e])
      · refine Or.inl ?_
        rw [g4]
        intro z
        rw [if_pos z] at n3
        omega
  refine zm_go (okm_Mo_quotient hG hl) [232] 200 ?_
  conv => whnf
  refine k_isLeft hG hl (by omega) hf ?_
  rw [hL]
  conv => whnf
  refine ⟨(decide ((R A).2.1 * 10 ^ j % (R C).2.1 ≠ 0)), rfl, ?_⟩
  conv => whnf
  refine ⟨A, rfl, by omega, ?_⟩
  conv => whnf
  refine ⟨C, rfl, by omega, ?_⟩
  conv => whnf
  dsimp only
  rw [na, nb]
  have tail : zm_W l B gM m_Mo_quotient 232 [some (.ref 53), some (.int (nI A)), some (.int (nI C)), some (.int (nI T)), some (.int (nI P)), some (.int (nI M)), some (.long (lI wi)), none, some (.int (nI (if P = 0 then 1000 else P))), some (.int x9), none, none] [.int (bI ((R A).1 != (R C).1)), .ref 53] (mS t ln sz sc (decide ((R A).2.1 * 10 ^ j % (R C).2.1 ≠ 0)) be ts us lz pr fa D K Mn Mi Sc rw tp un lf pa) Q := by
    refine zm_go (okm_Mo_quotient hG hl) [254] 200 ?_
    conv => whnf
    refine ⟨((R A).1 != (R C).1), rfl, ?_⟩
    conv => whnf
    by_cases en : sz = 0
    · subst en
      refine ⟨fun z => absurd rfl z, fun _ => ?_⟩
      conv => whnf
      refine ⟨0, rfl, by omega, ?_⟩
      conv => whnf
      refine ⟨?_, trivial⟩
      try dsimp only
      rw [show (0 : Int32) = nI 0 from rfl]
      rw [upd_nI]
      have hV0 : V = 0 := by rw [← n2]; rfl
      exact fin _ 1 (zu_lt n1 (by decide)) (by decide) (by decide) (by rw [hV0]; show 0 * 10 + zu rw 0 0 0 = 0; rw [zu_s]) (fun z => absurd hV0 z)
    · refine ⟨fun _ => ?_, fun z => absurd ((nI_z (by omega)).mp z) en⟩
      refine ⟨?_, trivial⟩
      try dsimp only
      refine fin rw sz n1 (by omega) hsz2 n2 (fun z => ?_)
      rw [if_neg z] at n3
      intro e
      have := (top0 (V := V) n1 (by rw [← n3]; exact n2)).mp e
      exact z this
  cases h1 : (R A).1 <;> cases h2 : (R C).1 <;> rw [h1, h2] at tail
  · refine ⟨fun _ => ?_, fun z => absurd rfl z⟩
    conv => whnf
    refine ⟨?_, trivial⟩
    try dsimp only
    exact tail
  · refine ⟨fun z => absurd z (by decide), fun _ => ?_⟩
    conv => whnf
    refine ⟨?_, trivial⟩
    try dsimp only
    exact tail
  · refine ⟨fun z => absurd z (by decide), fun _ => ?_⟩
    conv => whnf
    refine ⟨?_, trivial⟩
    try dsimp only
    exact tail
  · refine ⟨fun _ => ?_, fun z => absurd rfl z⟩
    conv => whnf
    refine ⟨?_, trivial⟩
    try dsimp only
    exact tail
/-- more figures than the dividend has -/
theorem w_quo165 (hG : zd_G B) (hl : l.stackTraces = false) {R : Nat → zr} (hR : ROk R) (hM : MR R K Mn Mi Sc) {A C T M P : Nat} {wi : Int} (la : A < 10) (lb : C < 10) (lt : T < 10) (lm : M < 8) (lp : P ≤ 1000) (hC : (R C).2.1 ≠ 0) (ht : t = 0) (hfa : fa = 2) (hwi : wi = (R A).2.2 - (R C).2.2) (hus : us = dg (R C).2.1) (hu : ∀ j, j < us → un j < 10) (hU : tv un us = (R C).2.1) {x9 : Int32}
    (hq : Res Q R T 0 ln pr 2 D pa K Mn Mi Sc ((R A).1 != (R C).1) (sp_quo (R A) (R C) P M)) :
    ∀ (d j : Nat) (g f : Nat → Nat) (n : Nat), j + d = 2002 → n ≤ dg (R A).2.1 + j → QN g n ((R A).2.1 * 10 ^ j / (R C).2.1) → (∀ i, i ≤ us → f i < 10) → tv f (us + 1) = (R A).2.1 * 10 ^ j % (R C).2.1 → zm_W l B gM m_Mo_quotient 165 [some (.ref 53), some (.int (nI A)), some (.int (nI C)), some (.int (nI T)), some (.int (nI P)), some (.int (nI M)), some (.long (lI wi)), none, some (.int (nI (if P = 0 then 1000 else P))), some (.int x9), none, none] [] (mS t ln (n) (wi + j) mo be ts us lz pr fa D K Mn Mi Sc (g) tp un (f) pa) Q := by
  obtain ⟨ra, ra2, ra3, -⟩ := hR A la
  obtain ⟨rb, rb2, rb3, -⟩ := hR C lb
  have hCp : 0 < (R C).2.1 := by omega
  have hen : (if P = 0 then 1000 else P) ≤ 1000 := by split <;> omega
  intro d
  induction d with
  | zero =>
    intro j g f n hj hn h1 h2 h3
    have he : j = 2002 := by omega
    have stop : (R A).2.1 * 10 ^ j % (R C).2.1 = 0 ∨ (if P = 0 then 1000 else P) < n := by
      by_cases hA : (R A).2.1 = 0
      · left; rw [hA]; simp
      · right
        have q := q_dg (N := (R A).2.1) (M := (R C).2.1) (E := 1002) (s := 0) (t := 0 + (j : Int)) hA hC (by have := dg_pos (R A).2.1; omega)
        rw [q_at.1] at q
        have h4 := h1.2.2
        have : (R A).2.1 * 10 ^ j / (R C).2.1 ≠ 0 := fun z => by rw [z, dg_0] at q; omega
        rw [if_neg this] at h4
        omega
    have fin := w_quo203 (x9 := x9) (sz := n) (rw := g) (lf := f) (mo := mo) (be := be) (ts := ts) (lz := lz) (tp := tp) hG hl hR hM la lb lt lm lp hC ht hfa hwi hus hu hU (j := j) (by omega) (by omega) rfl h1 rfl h2 h3 stop hq
    refine zm_go (okm_Mo_quotient hG hl) [203] 200 ?_
    conv => whnf
    refine k_isLeft hG hl (by omega) h2 ?_
    rw [h3]
    conv => whnf
    by_cases hz : (R A).2.1 * 10 ^ j % (R C).2.1 = 0
    · rw [show decide ((R A).2.1 * 10 ^ j % (R C).2.1 ≠ 0) = false by simp [hz]]
      refine ⟨fun _ => ?_, fun z => absurd rfl z⟩
      refine ⟨?_, trivial⟩
      try dsimp only
      exact fin
    · rw [show decide ((R A).2.1 * 10 ^ j % (R C).2.1 ≠ 0) = true by simp [hz]]
      refine ⟨fun z => absurd z (by decide), fun _ => ?_⟩
      conv => whnf
      refine ⟨fun _ => ?_, fun z => absurd (nI_lt (by omega) (by omega)) z⟩
      refine ⟨?_, trivial⟩
      try dsimp only
      exact fin
  | succ d ih =>
    intro j g f n hj hn h1 h2 h3
    have fin := fun stop => w_quo203 (x9 := x9) (sz := n) (rw := g) (lf := f) (mo := mo) (be := be) (ts := ts) (lz := lz) (tp := tp) hG hl hR hM la lb lt lm lp hC ht hfa hwi hus hu hU (j := j) (by omega) (by omega) rfl h1 rfl h2 h3 stop hq
    have hml := Nat.mod_lt ((R A).2.1 * 10 ^ j) hCp
    refine zm_go (okm_Mo_quotient hG hl) [165, 203] 200 ?_
    conv => whnf
    refine k_isLeft hG hl (by omega) h2 ?_
    rw [h3]
    conv => whnf
    by_cases hz : (R A).2.1 * 10 ^ j % (R C).2.1 = 0
    · rw [show decide ((R A).2.1 * 10 ^ j % (R C).2.1 ≠ 0) = false by simp [hz]]
      refine ⟨fun _ => ?_, fun z => absurd rfl z⟩
      refine ⟨?_, trivial⟩
      try dsimp only
      exact fin (Or.inl hz)
    · rw [show decide ((R A).2.1 * 10 ^ j % (R C).2.1 ≠ 0) = true by simp [hz]]
      refine ⟨fun z => absurd z (by decide), fun _ => ?_⟩
      conv => whnf
      by_cases hsz : (if P = 0 then 1000 else P) < n
      · refine ⟨fun _ => ?_, fun z => absurd (nI_lt hsz (by omega)) z⟩
        refine ⟨?_, trivial⟩
        try dsimp only
        exact fin (Or.inr hsz)
      · refine ⟨fun z => absurd z (nI_nlt (by omega) (by omega)), fun _ => ?_⟩
        conv => whnf
        rw [show (0 : Int32) = nI 0 from rfl]
        refine k_nextFigure hG hl (by omega) hu h2 (dn := 0) (by decide) (by rw [h3, hU]; exact hml) (fun f' a1 a2 => ?_)
        conv => whnf
        obtain ⟨s1, s2⟩ := div_step ((R A).2.1 * 10 ^ j) (R C).2.1 0 hCp
        have hP : (R A).2.1 * 10 ^ j * 10 + 0 = (R A).2.1 * 10 ^ (j + 1) := by rw [Nat.pow_succ, ← Nat.mul_assoc, Nat.add_zero]
        rw [hP] at s1 s2
        rw [h3, hU] at a2 ⊢
        have hd10 : ((R A).2.1 * 10 ^ j % (R C).2.1 * 10 + 0) / (R C).2.1 < 10 := by
          rw [Nat.div_lt_iff_lt_mul hCp]
          omega
        refine k_append hG hl (by omega) h1 hd10 (fun g' n' b1 b2 => ?_)
        rw [← s1] at b1
        rw [← s2] at a2
        conv => whnf
        refine ⟨?_, trivial⟩
        try dsimp only
        rw [show lI (wi + j) + 1 = lI (wi + ((j + 1 : Nat) : Int)) by show _ + lI 1 = _; rw [lI_add]; congr 1; omega]
        exact ih (j + 1) g' f' n' (by omega) (by omega) b1 a1 a2
/-- the dividend's figures -/
theorem w_quo127 (hG : zd_G B) (hl : l.stackTraces = false) {R : Nat → zr} (hR : ROk R) (hM : MR R K Mn Mi Sc) {A C T M P : Nat} {wi : Int} (la : A < 10) (lb : C < 10) (lt : T < 10) (lm : M < 8) (lp : P ≤ 1000) (hC : (R C).2.1 ≠ 0) (ht : t = 0) (hfa : fa = 2) (hwi : wi = (R A).2.2 - (R C).2.2) (hus : us = dg (R C).2.1) (hu : ∀ j, j < us → un j < 10) (hU : tv un us = (R C).2.1) (hsc : sc = wi)
    (hq : Res Q R T 0 ln pr 2 D pa K Mn Mi Sc ((R A).1 != (R C).1) (sp_quo (R A) (R C) P M)) :
    ∀ (d k : Nat) (g f : Nat → Nat) (n : Nat), k + d = dg (R A).2.1 → n ≤ k → QN g n ((R A).2.1 * 10 ^ k / 10 ^ dg (R A).2.1 / (R C).2.1) → (∀ i, i ≤ us → f i < 10) → tv f (us + 1) = (R A).2.1 * 10 ^ k / 10 ^ dg (R A).2.1 % (R C).2.1 → zm_W l B gM m_Mo_quotient 127 [some (.ref 53), some (.int (nI A)), some (.int (nI C)), some (.int (nI T)), some (.int (nI P)), some (.int (nI M)), some (.long (lI wi)), none, some (.int (nI (if P = 0 then 1000 else P))), some (.int (nI k)), none, none] [] (mS t ln (n) sc mo be ts us lz pr fa D K Mn Mi Sc (g) tp un (f) pa) Q := by
  obtain ⟨ma, ka, na, sa⟩ := hM.2 A la
  obtain ⟨ra, ra2, ra3, -⟩ := hR A la
  obtain ⟨rb, rb2, rb3, -⟩ := hR C lb
  have hCp : 0 < (R C).2.1 := by omega
  intro d
  induction d with
  | zero =>
    intro k g f n hk hn h1 h2 h3
    have e : k = dg (R A).2.1 := by omega
    subst e
    rw [Nat.mul_div_cancel _ (pow10_pos _)] at h1 h3
    have w := w_quo165 (x9 := nI (dg (R A).2.1)) (mo := mo) (be := be) (ts := ts) (lz := lz) (tp := tp) hG hl hR hM la lb lt lm lp hC ht hfa hwi hus hu hU hq 2002 0 g f n (by omega) (by omega) (by rw [Nat.pow_zero, Nat.mul_one]; exact h1) h2 (by rw [Nat.pow_zero, Nat.mul_one]; exact h3)
    rw [show wi + ((0 : Nat) : Int) = wi by omega] at w
    subst hsc
    refine zm_go (okm_Mo_quotient hG hl) [165] 200 ?_
    conv => whnf
    refine ⟨A, rfl, by omega, ?_⟩
    conv => whnf
    dsimp only
    rw [ma]
    refine ⟨fun _ => ?_, fun z => absurd (Int32.le_refl _) z⟩
    refine ⟨?_, trivial⟩
    try dsimp only
    exact w
  | succ d ih =>
    intro k g f n hk hn h1 h2 h3
    obtain ⟨p1, p2⟩ := pre_step (V := (R A).2.1) (d := dg (R A).2.1) (k := k) (dg_lt _)
    rw [if_pos (by omega)] at p1 p2
    have hml := Nat.mod_lt ((R A).2.1 * 10 ^ k / 10 ^ dg (R A).2.1) hCp
    refine zm_go (okm_Mo_quotient hG hl) [127] 200 ?_
    conv => whnf
    refine ⟨A, rfl, by omega, ?_⟩
    conv => whnf
    dsimp only
    rw [ma]
    refine ⟨fun z => absurd ((nI_ge0 (by omega) (by omega)).mp z) (by omega), fun _ => ?_⟩
    conv => whnf
    refine ⟨(1000 * A + k), by rw [← nI_add, ← lmul]; rfl, by omega, ?_⟩
    conv => whnf
    dsimp only
    rw [ka k (by omega)]
    refine k_nextFigure hG hl (by omega) hu h2 p1 (by rw [h3, hU]; exact hml) (fun f' a1 a2 => ?_)
    conv => whnf
    obtain ⟨s1, s2⟩ := div_step ((R A).2.1 * 10 ^ k / 10 ^ dg (R A).2.1) (R C).2.1 (td (R A).2.1 (dg (R A).2.1) k) hCp
    rw [← p2] at s1 s2
    rw [h3, hU] at a2 ⊢
    have hd10 : ((R A).2.1 * 10 ^ k / 10 ^ dg (R A).2.1 % (R C).2.1 * 10 + td (R A).2.1 (dg (R A).2.1) k) / (R C).2.1 < 10 := by
      rw [Nat.div_lt_iff_lt_mul hCp]
      omega
    refine k_append hG hl (by omega) h1 hd10 (fun g' n' b1 b2 => ?_)
    rw [← s1] at b1
    rw [← s2] at a2
    conv => whnf
    refine ⟨?_, trivial⟩
    try dsimp only
    rw [nI_1]
    exact ih (k + 1) g' f' n' (by omega) (by omega) b1 a1 a2
theorem k_quotient (hG : zd_G B) (hl : l.stackTraces = false) {R : Nat → zr} (hR : ROk R) (hM : MR R K Mn Mi Sc) {a b to p md : Int} (ha : iR a) (hb2 : iR b) (hto : iR to) (hp : iR p) (hmd : iR md) (hd : ∀ i, rw i < 10)
    (hb : ((a < 0 ∨ 10 ≤ a) ∨ (b < 0 ∨ 10 ≤ b) ∨ (to < 0 ∨ 10 ≤ to) ∨ (md < 0 ∨ 8 ≤ md) ∨ p < 0 ∨ 1000 < p) → Q none (mS (1) ln sz sc mo be ts us lz pr fa D K Mn Mi Sc rw tp un lf pa))
    (hz : ¬ ((a < 0 ∨ 10 ≤ a) ∨ (b < 0 ∨ 10 ≤ b) ∨ (to < 0 ∨ 10 ≤ to) ∨ (md < 0 ∨ 8 ≤ md) ∨ p < 0 ∨ 1000 < p) → ∀ C : Nat, b = C → (R C).2.1 = 0 → Q none (mS (2) ln sz sc mo be ts us lz pr fa D K Mn Mi Sc rw tp un lf pa))
    (hq : ∀ A C T P M : Nat, a = A → b = C → to = T → p = P → md = M → A < 10 → C < 10 → T < 10 → P ≤ 1000 → M < 8 → (R C).2.1 ≠ 0 → Res Q R T 0 ln pr 2 D pa K Mn Mi Sc ((R A).1 != (R C).1) (sp_quo (R A) (R C) P M)) : zm_M l B gM m_Mo_quotient [.ref 53, .int (iI a), .int (iI b), .int (iI to), .int (iI p), .int (iI md)] (mS t ln sz sc mo be ts us lz pr fa D K Mn Mi Sc rw tp un lf pa) Q := by
  have bad : ((a < 0 ∨ 10 ≤ a) ∨ (b < 0 ∨ 10 ≤ b) ∨ (to < 0 ∨ 10 ≤ to) ∨ (md < 0 ∨ 8 ≤ md) ∨ p < 0 ∨ 1000 < p) → zm_W l B gM m_Mo_quotient 43 [some (.ref 53), some (.int (iI a)), some (.int (iI b)), some (.int (iI to)), some (.int (iI p)), some (.int (iI md)), none, none, none, none, none, none] [.ref 53] (mS t ln sz sc mo be ts us lz pr fa D K Mn Mi Sc rw tp un lf pa) Q := by
    intro hc
    refine zm_go (okm_Mo_quotient hG hl) [] 200 ?_
    conv => whnf
    refine ⟨fun z => absurd z (by decide), fun _ => ?_⟩
    conv => whnf
    exact ⟨hb hc, trivial⟩
  refine zm_go (okm_Mo_quotient hG hl) [43, 108, 127] 200 ?_
  conv => whnf
  refine k_no hG hl ha ?_
  by_cases ca : a < 0 ∨ 10 ≤ a
  · rw [decide_eq_true ca]
    conv => whnf
    refine ⟨fun _ => ?_, fun z => absurd z (by decide)⟩
    refine ⟨?_, trivial⟩
    try dsimp only
    exact bad (Or.inl ca)
  · rw [decide_eq_false ca]
    conv => whnf
    refine ⟨fun z => absurd rfl z, fun _ => ?_⟩
    conv => whnf
    refine k_no hG hl hb2 ?_
    by_cases cb : b < 0 ∨ 10 ≤ b
    · rw [decide_eq_true cb]
      conv => whnf
      refine ⟨fun _ => ?_, fun z => absurd z (by decide)⟩
      refine ⟨?_, trivial⟩
      try dsimp only
      exact bad (Or.inr (Or.inl cb))
    · rw [decide_eq_false cb]
      conv => whnf
      refine ⟨fun z => absurd rfl z, fun _ => ?_⟩
      conv => whnf
      refine k_no hG hl hto ?_
      by_cases cto : to < 0 ∨ 10 ≤ to
      · rw [decide_eq_true cto]
        conv => whnf
        refine ⟨fun _ => ?_, fun z => absurd z (by decide)⟩
        refine ⟨?_, trivial⟩
        try dsimp only
        exact bad (Or.inr (Or.inr (Or.inl cto)))
      · rw [decide_eq_false cto]
        conv => whnf
        refine ⟨fun z => absurd rfl z, fun _ => ?_⟩
        conv => whnf
        refine k_noMode hG hl hmd ?_
        by_cases cmd : md < 0 ∨ 8 ≤ md
        · rw [decide_eq_true cmd]
          conv => whnf
          refine ⟨fun _ => ?_, fun z => absurd z (by decide)⟩
          refine ⟨?_, trivial⟩
          try dsimp only
          exact bad (Or.inr (Or.inr (Or.inr (Or.inl cmd))))
        · rw [decide_eq_false cmd]
          conv => whnf
          refine ⟨fun z => absurd rfl z, fun _ => ?_⟩
          conv => whnf
          by_cases c1 : p < 0
          · refine ⟨fun _ => ?_, fun z => absurd ((iI_lt (b := 0) hp ⟨by decide, by decide⟩).mpr c1) z⟩
            refine ⟨?_, trivial⟩
            try dsimp only
            exact bad (Or.inr (Or.inr (Or.inr (Or.inr (Or.inl c1)))))
          · refine ⟨fun z => absurd ((iI_lt (b := 0) hp ⟨by decide, by decide⟩).mp z) c1, fun _ => ?_⟩
            conv => whnf
            by_cases c2 : 1000 < p
            · refine ⟨fun z => absurd ((iI_le (b := 1000) hp ⟨by decide, by decide⟩).mp z) (by omega), fun _ => ?_⟩
              refine ⟨?_, trivial⟩
              try dsimp only
              exact bad (Or.inr (Or.inr (Or.inr (Or.inr (Or.inr c2)))))
            · refine ⟨fun _ => ?_, fun z => absurd ((iI_le (b := 1000) hp ⟨by decide, by decide⟩).mpr (by omega)) z⟩
              conv => whnf
              obtain ⟨A, ea, la⟩ := iI_of_nat ca
              obtain ⟨C, eb, lb⟩ := iI_of_nat cb
              obtain ⟨T, et, lt⟩ := iI_of_nat cto
              obtain ⟨M, em, lm⟩ := iI_of_nat8 cmd
              obtain ⟨P, ep⟩ : ∃ P : Nat, p = P := ⟨p.toNat, by omega⟩
              have hzz := hz (by omega) C eb
              have hqq := hq A C T P M ea eb et ep em la lb lt (by omega) lm
              subst ea
              subst eb
              subst et
              subst em
              subst ep
              rw [← iI_nI, ← iI_nI, ← iI_nI, ← iI_nI, ← iI_nI]
              obtain ⟨ma, ka, na, sa⟩ := hM.2 A la
              obtain ⟨mb, kb, nb, sb⟩ := hM.2 C lb
              obtain ⟨ra, ra2, ra3, -⟩ := hR A la
              obtain ⟨rb, rb2, rb3, -⟩ := hR C lb
              refine k_isZero hG hl hM lb ?_
              conv => whnf
              by_cases ez : (R C).2.1 = 0
              · rw [decide_eq_true ez]
                refine ⟨fun z => absurd z (by decide), fun _ => ?_⟩
                conv => whnf
                refine ⟨fun z => absurd z (by decide), fun _ => ?_⟩
                conv => whnf
                exact ⟨hzz ez, trivial⟩
              · rw [decide_eq_false ez]
                refine ⟨fun _ => ?_, fun z => absurd rfl z⟩
                conv => whnf
                refine ⟨fun _ => ?_, fun z => absurd (by decide) z⟩
                conv => whnf
                refine ⟨A, rfl, by omega, ?_⟩
                conv => whnf
                refine ⟨C, rfl, by omega, ?_⟩
                conv => whnf
                dsimp only
                rw [sa, sb, iI_l ⟨by omega, by omega⟩, iI_l ⟨by omega, by omega⟩, lI_sub]
                have z0 : (R A).2.1 * 10 ^ 0 / 10 ^ dg (R A).2.1 = 0 := by rw [Nat.pow_zero, Nat.mul_one]; exact Nat.div_eq_of_lt (dg_lt _)
                have w : zm_W l B gM m_Mo_quotient 108 [some (.ref 53), some (.int (nI A)), some (.int (nI C)), some (.int (nI T)), some (.int (nI P)), some (.int (nI M)), some (.long (lI ((R A).2.2 - (R C).2.2))), none, some (.int (nI (if P = 0 then 1000 else P))), none, none, none] [] (mS (0) ln sz sc mo be ts us lz pr (2) D K Mn Mi Sc rw tp un lf pa) Q := by
                  refine zm_go (okm_Mo_quotient hG hl) [127] 200 ?_
                  conv => whnf
                  rw [show (0 : Int32) = nI 0 from rfl]
                  refine k_loadUnder (zn := 0) hG hl hR hM lb (by omega) (fun u a1 a2 => ?_)
                  rw [Nat.add_zero, Nat.pow_zero, Nat.mul_one] at a2
                  rw [Nat.add_zero] at a1 ⊢
                  conv => whnf
                  refine k_beginQuotient hG hl (by omega) (fun f b1 => ?_)
                  conv => whnf
                  refine ⟨?_, trivial⟩
                  try dsimp only
                  exact w_quo127 (wi := (R A).2.2 - (R C).2.2) (us := dg (R C).2.1) hG hl hR hM la lb lt lm (by omega) ez rfl rfl rfl rfl a1 a2 rfl (hqq ez) (dg (R A).2.1) 0 rw f 0 (by omega) (Nat.le_refl _) ⟨hd, by rw [z0]; simp [tv], by rw [z0]; simp⟩ (fun j hj => by rw [b1 j hj]; decide) (by rw [z0, tv_z.mpr (fun j hj => b1 j (by omega))]; simp)
                by_cases hP : P = 0
                · rw [if_pos hP] at w
                  refine ⟨fun z => absurd ((nI_z (by omega)).mpr hP) z, fun _ => ?_⟩
                  conv => whnf
                  refine ⟨?_, trivial⟩
                  try dsimp only
                  exact w
                · rw [if_neg hP] at w
                  refine ⟨fun _ => ?_, fun z => absurd ((nI_z (by omega)).mp z) hP⟩
                  conv => whnf
                  refine ⟨?_, trivial⟩
                  try dsimp only
                  exact w
end KQ

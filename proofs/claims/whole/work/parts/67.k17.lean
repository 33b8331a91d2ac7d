/-! the model: remainder -/
def sp_rem (x y : zr) : Option (Nat × Int) := some (upS x (max x.2.2 y.2.2) % upS y (max x.2.2 y.2.2), max x.2.2 y.2.2)
theorem cmpN_neg {a b : Nat} : cmpN a b ≥ 0 ↔ b ≤ a := by
  unfold cmpN
  by_cases h : a < b
  · rw [if_pos h]
    exact ⟨fun z => absurd z (by decide), fun z => by omega⟩
  · rw [if_neg h]
    by_cases h2 : a = b
    · rw [if_pos h2]
      exact ⟨fun _ => by omega, fun _ => by decide⟩
    · rw [if_neg h2]
      exact ⟨fun _ => by omega, fun _ => by decide⟩
section KR
variable {l : Launch} {B : zd_B} {Q : Option Value → zst → Prop} {t ln sz : Nat} {sc : Int} {mo be : Bool} {ts us lz pr fa : Nat} {D K Mn : Nat → Nat} {Mi : Nat → Bool} {Sc : Nat → Int} {rw tp un lf pa : Nat → Nat}
/-- left becomes the number -/
theorem w_rem270 (hG : zd_G B) (hl : l.stackTraces = false) {A C T n : Nat} {s : Int} {o6 o9 : Int64} {sg : Bool} {x12 x13 : Option Value} (hn : n ≤ 2202) (hsz : sz = n)
    (hq : ∀ g', (∀ j, j < n → g' j = lf j) → (∀ j, n ≤ j → g' j = rw j) → zm_W l B gM m_Mo_remainder 299 [some (.ref 53), some (.int (nI A)), some (.int (nI C)), some (.int (nI T)), some (.long (lI s)), none, some (.long o6), none, some (.int (bI sg)), some (.long o9), none, some (.int (nI n)), x12, x13] [] (mS t ln sz sc mo be ts us lz pr fa D K Mn Mi Sc (g') tp un lf pa) Q) :
    ∀ (d i : Nat) (g : Nat → Nat), i + d = n → (∀ j, j < i → g j = lf j) → (∀ j, i ≤ j → g j = rw j) → zm_W l B gM m_Mo_remainder 270 [some (.ref 53), some (.int (nI A)), some (.int (nI C)), some (.int (nI T)), some (.long (lI s)), none, some (.long o6), none, some (.int (bI sg)), some (.long o9), none, some (.int (nI i)), x12, x13] [] (mS t ln sz sc mo be ts us lz pr fa D K Mn Mi Sc (g) tp un lf pa) Q := by
  subst hsz
  intro d
  induction d with
  | zero =>
    intro i g hi h1 h2
    have e : i = sz := by omega
    subst e
    refine zm_go (okm_Mo_remainder hG hl) [299] 200 ?_
    conv => whnf
    refine ⟨fun _ => ?_, fun z => absurd (Int32.le_refl _) z⟩
    refine ⟨?_, trivial⟩
    try dsimp only
    exact hq g h1 h2
  | succ d ih =>
    intro i g hi h1 h2
    refine zm_go (okm_Mo_remainder hG hl) [270] 200 ?_
    conv => whnf
    refine ⟨fun z => absurd ((nI_ge0 (by omega) (by omega)).mp z) (by omega), fun _ => ?_⟩
    conv => whnf
    refine ⟨i, rfl, by omega, ?_⟩
    conv => whnf
    refine ⟨i, rfl, by omega, ?_⟩
    conv => whnf
    refine ⟨?_, trivial⟩
    try dsimp only
    rw [nI_1]
    rw [upd_nI]
    refine ih (i + 1) _ (by omega) (fun j hj => ?_) (fun j hj => ?_)
    · by_cases q : j = i
      · rw [q, zu_s]
      · rw [zu_n q]; exact h1 j (by omega)
    · rw [zu_n (by omega)]; exact h2 j (by omega)
theorem w_rem203 (hG : zd_G B) (hl : l.stackTraces = false) {R : Nat → zr} (hR : ROk R) (hM : MR R K Mn Mi Sc) {A C T zp U : Nat} {s : Int} {o6 : Int64} {sg : Bool} (la : A < 10) (hus : us ≤ 2200) (hu : ∀ j, j < us → un j < 10) (hU : tv un us = U) (hU0 : 0 < U) (htot : dg (R A).2.1 + zp ≤ 100000)
    (hq : ∀ f' x13, (∀ j, j ≤ us → f' j < 10) → tv f' (us + 1) = (R A).2.1 * 10 ^ zp % U → zm_W l B gM m_Mo_remainder 257 [some (.ref 53), some (.int (nI A)), some (.int (nI C)), some (.int (nI T)), some (.long (lI s)), none, some (.long o6), none, some (.int (bI sg)), some (.long (lI ((dg (R A).2.1 + zp : Nat) : Int))), none, some (.long (lI ((dg (R A).2.1 + zp : Nat) : Int))), none, x13] [] (mS t ln sz sc mo be ts us lz pr fa D K Mn Mi Sc rw tp un (f') pa) Q) :
    ∀ (d k : Nat) (f : Nat → Nat) (x13 : Option Value), k + d = dg (R A).2.1 + zp → (∀ j, j ≤ us → f j < 10) → tv f (us + 1) = (R A).2.1 * 10 ^ k / 10 ^ dg (R A).2.1 % U → zm_W l B gM m_Mo_remainder 203 [some (.ref 53), some (.int (nI A)), some (.int (nI C)), some (.int (nI T)), some (.long (lI s)), none, some (.long o6), none, some (.int (bI sg)), some (.long (lI ((dg (R A).2.1 + zp : Nat) : Int))), none, some (.long (lI (k : Int))), none, x13] [] (mS t ln sz sc mo be ts us lz pr fa D K Mn Mi Sc rw tp un (f) pa) Q := by
  obtain ⟨mr, kr, nr, sr⟩ := hM.2 A la
  have rr := (hR A la).1
  intro d
  induction d with
  | zero =>
    intro k f x13 hk h2 h3
    have e : k = dg (R A).2.1 + zp := by omega
    subst e
    rw [Nat.pow_add, Nat.mul_comm (10 ^ dg (R A).2.1), ← Nat.mul_assoc, Nat.mul_div_cancel _ (pow10_pos _)] at h3
    refine zm_go (okm_Mo_remainder hG hl) [257] 200 ?_
    conv => whnf
    refine ⟨fun _ => ?_, fun z => absurd ((lg_cmp_ge _ _).mpr (Int64.le_refl _)) z⟩
    refine ⟨?_, trivial⟩
    try dsimp only
    exact hq f _ h2 h3
  | succ d ih =>
    intro k f x13 hk h2 h3
    obtain ⟨p1, p2⟩ := pre_step (V := (R A).2.1) (d := dg (R A).2.1) (k := k) (dg_lt _)
    have hml := Nat.mod_lt ((R A).2.1 * 10 ^ k / 10 ^ dg (R A).2.1) hU0
    have body : zm_W l B gM m_Mo_remainder 243 [some (.ref 53), some (.int (nI A)), some (.int (nI C)), some (.int (nI T)), some (.long (lI s)), none, some (.long o6), none, some (.int (bI sg)), some (.long (lI ((dg (R A).2.1 + zp : Nat) : Int))), none, some (.long (lI (k : Int))), none, x13] [.int (nI (if k < dg (R A).2.1 then td (R A).2.1 (dg (R A).2.1) k else 0)), .ref 53] (mS t ln sz sc mo be ts us lz pr fa D K Mn Mi Sc rw tp un (f) pa) Q := by
      refine zm_go (okm_Mo_remainder hG hl) [203] 200 ?_
      conv => whnf
      refine k_nextFigure hG hl hus hu h2 p1 (by rw [h3, hU]; exact hml) (fun f' a1 a2 => ?_)
      conv => whnf
      obtain ⟨s1, s2⟩ := div_step ((R A).2.1 * 10 ^ k / 10 ^ dg (R A).2.1) U (if k < dg (R A).2.1 then td (R A).2.1 (dg (R A).2.1) k else 0) hU0
      rw [h3, hU] at a2 ⊢
      rw [← p2] at s1 s2
      rw [← s2] at a2
      refine ⟨?_, trivial⟩
      try dsimp only
      rw [show lI (k : Int) + 1 = lI ((k + 1 : Nat) : Int) by show _ + lI 1 = _; rw [lI_add]; rfl]
      exact ih (k + 1) f' _ (by omega) a1 a2
    refine zm_go (okm_Mo_remainder hG hl) [243] 200 ?_
    conv => whnf
    refine ⟨fun z => absurd ((lI_le ⟨by omega, by omega⟩ ⟨by omega, by omega⟩).mp ((lg_cmp_ge _ _).mp z)) (by omega), fun _ => ?_⟩
    conv => whnf
    refine ⟨A, rfl, by omega, ?_⟩
    conv => whnf
    dsimp only
    rw [mr, iI_nI (dg (R A).2.1), iI_l ⟨by omega, by omega⟩]
    by_cases q : k < dg (R A).2.1
    · rw [if_pos q, ← kr k q] at body
      refine ⟨fun z => absurd ((lI_le ⟨by omega, by omega⟩ ⟨by omega, by omega⟩).mp ((lg_cmp_ge _ _).mp z)) (by omega), fun _ => ?_⟩
      conv => whnf
      refine ⟨(1000 * A + k), by rw [lI_i, ← nI_add, ← lmul, ← iI_nI]; rfl, by omega, ?_⟩
      conv => whnf
      refine ⟨?_, trivial⟩
      try dsimp only
      exact body
    · rw [if_neg q] at body
      refine ⟨fun _ => ?_, fun z => absurd ((lg_cmp_ge _ _).mpr ((lI_le ⟨by omega, by omega⟩ ⟨by omega, by omega⟩).mpr (by omega))) z⟩
      conv => whnf
      refine ⟨?_, trivial⟩
      try dsimp only
      exact body
theorem w_rem89 (hG : zd_G B) (hl : l.stackTraces = false) {R : Nat → zr} (hR : ROk R) (hM : MR R K Mn Mi Sc) {A C T : Nat} {s : Int} (la : A < 10) (lb : C < 10) (lt : T < 10) (hd : ∀ i, rw i < 10) (hC : (R C).2.1 ≠ 0) (hs : s = max (R A).2.2 (R C).2.2) (ht : t = 0) (hfa : fa = 2)
    (hq : Res Q R T 0 ln pr 2 D pa K Mn Mi Sc (R A).1 (sp_rem (R A) (R C))) : zm_W l B gM m_Mo_remainder 89 [some (.ref 53), some (.int (nI A)), some (.int (nI C)), some (.int (nI T)), some (.long (lI s)), none, none, none, none, none, none, none, none, none] [] (mS t ln sz sc mo be ts us lz pr fa D K Mn Mi Sc rw tp un lf pa) Q := by
  subst ht
  subst hfa
  obtain ⟨ma, ka, na, sa⟩ := hM.2 A la
  obtain ⟨mb, kb, nb, sb⟩ := hM.2 C lb
  obtain ⟨ra, ra2, ra3, -⟩ := hR A la
  obtain ⟨rb, rb2, rb3, -⟩ := hR C lb
  have pa1 := dg_pos (R A).2.1
  have pb1 := dg_pos (R C).2.1
  unfold sp_rem at hq
  rw [← hs] at hq
  have small : ((R A).2.1 = 0 ∨ upS (R A) s < upS (R C) s) → zm_W l B gM m_Mo_remainder 106 [some (.ref 53), some (.int (nI A)), some (.int (nI C)), some (.int (nI T)), some (.long (lI s)), none, none, none, none, none, none, none, none, none] [] (mS (0) ln sz sc mo be ts us lz pr (2) D K Mn Mi Sc rw tp un lf pa) Q := by
    intro hc
    have hB0 : 0 < upS (R C) s := Nat.mul_pos (by omega) (pow10_pos _)
    have hlt : upS (R A) s < upS (R C) s := by
      rcases hc with e | e
      · unfold upS; rw [e, Nat.zero_mul]; exact hB0
      · exact e
    rw [Nat.mod_eq_of_lt hlt] at hq
    refine zm_go (okm_Mo_remainder hG hl) [139] 200 ?_
    conv => whnf
    refine k_load hG hl hR hM la hd (fun g b1 b2 => ?_)
    have br : zm_W l B gM m_Mo_remainder 139 [some (.ref 53), some (.int (nI A)), some (.int (nI C)), some (.int (nI T)), some (.long (lI s)), none, none, none, none, none, none, none, none, none] [] (mS (0) ln (dg (R A).2.1) ((R A).2.2) (false) ((R A).1) ts us lz pr (2) D K Mn Mi Sc (g) tp un lf pa) Q := by
      refine zm_go (okm_Mo_remainder hG hl) [] 200 ?_
      conv => whnf
      rw [show (1 : Int32) = nI 1 from rfl]
      refine k_bring hG hl hR hM lt (by decide) (by omega) b1 (by omega) (by omega) rfl ?_
      rw [b2]
      obtain ⟨k1, k2, k3⟩ := cut_guard_up (V := (R A).2.1) (s := (R A).2.2) (w := s) (by omega)
      have e0 : sp_ts (R A).2.1 (R A).2.2 s 1 (R A).1 = some (upS (R A) s, s) := by
        unfold sp_ts
        rw [k1, k2, k3]
        rfl
      rw [e0]
      refine hq.imp (fun m hm => ?_)
      conv => whnf
      exact ⟨hm, trivial⟩
    conv => whnf
    rw [lI_sub]
    by_cases hbig : s - (R A).2.2 ≤ 1000
    · refine ⟨fun _ => ?_, fun z => absurd ((lg_cmp_le _ _).mpr ((lI_le (b := 1000) ⟨by omega, by omega⟩ ⟨by decide, by decide⟩).mpr hbig)) z⟩
      refine ⟨?_, trivial⟩
      try dsimp only
      exact br
    · refine ⟨fun z => absurd ((lI_le (b := 1000) ⟨by omega, by omega⟩ ⟨by decide, by decide⟩).mp ((lg_cmp_le _ _).mp z)) hbig, fun _ => ?_⟩
      conv => whnf
      refine k_isZero hG hl hM la ?_
      by_cases ez : (R A).2.1 = 0
      · rw [decide_eq_true ez]
        conv => whnf
        refine ⟨fun _ => ?_, fun z => absurd z (by decide)⟩
        refine ⟨?_, trivial⟩
        try dsimp only
        exact br
      · exfalso
        have hsC : s = (R C).2.2 := by omega
        have : upS (R C) s < upS (R A) s := lead_lt (by omega) (by omega) ez (by omega)
        omega
  refine zm_go (okm_Mo_remainder hG hl) [106, 148] 200 ?_
  conv => whnf
  refine k_isZero hG hl hM la ?_
  conv => whnf
  by_cases ez : (R A).2.1 = 0
  · rw [decide_eq_true ez]
    refine ⟨fun _ => ?_, fun z => absurd z (by decide)⟩
    refine ⟨?_, trivial⟩
    try dsimp only
    exact small (Or.inl ez)
  · rw [decide_eq_false ez]
    refine ⟨fun z => absurd rfl z, fun _ => ?_⟩
    conv => whnf
    refine k_compareSizes hG hl hR hM la lb ez hC ?_
    rw [← hs]
    conv => whnf
    by_cases hle : upS (R C) s ≤ upS (R A) s
    · refine ⟨fun _ => ?_, fun z => absurd (cmpN_neg.mpr hle) z⟩
      refine ⟨?_, trivial⟩
      try dsimp only
      have hlen : dg (R C).2.1 + (s - (R C).2.2).toNat ≤ 1000 := by
        by_cases hsC : s = (R C).2.2
        · omega
        · have hsA : s = (R A).2.2 := by omega
          have e1 : upS (R A) s = (R A).2.1 := by unfold upS; rw [show (s - (R A).2.2).toNat = 0 by omega, Nat.pow_zero, Nat.mul_one]
          have e2 : dg (upS (R C) s) = dg (R C).2.1 + (s - (R C).2.2).toNat := dg_mul_pow hC _
          have := dg_mono hle
          rw [e1, e2] at this
          omega
      refine zm_go (okm_Mo_remainder hG hl) [203] 200 ?_
      conv => whnf
      refine ⟨C, rfl, by omega, ?_⟩
      conv => whnf
      refine ⟨A, rfl, by omega, ?_⟩
      conv => whnf
      dsimp only
      rw [sb, na, iI_l ⟨by omega, by omega⟩, lI_sub, lI_i, show iI (s - (R C).2.2) = nI (s - (R C).2.2).toNat by rw [iI_nI]; congr 1; omega]
      refine k_loadUnder hG hl hR hM lb (by omega) (fun u a1 a2 => ?_)
      conv => whnf
      refine k_beginQuotient hG hl (by omega) (fun f0 b1 => ?_)
      conv => whnf
      refine ⟨A, rfl, by omega, ?_⟩
      conv => whnf
      refine ⟨A, rfl, by omega, ?_⟩
      conv => whnf
      refine ⟨?_, trivial⟩
      try dsimp only
      rw [ma, sa, iI_nI (dg (R A).2.1), iI_l ⟨by omega, by omega⟩, iI_l ⟨by omega, by omega⟩, lI_add, lI_sub, show (dg (R A).2.1 : Int) + s - (R A).2.2 = ((dg (R A).2.1 + (s - (R A).2.2).toNat : Nat) : Int) by omega]
      have z0 : (R A).2.1 * 10 ^ 0 / 10 ^ dg (R A).2.1 = 0 := by rw [Nat.pow_zero, Nat.mul_one]; exact Nat.div_eq_of_lt (dg_lt _)
      refine w_rem203 (zp := (s - (R A).2.2).toNat) (U := upS (R C) s) (us := dg (R C).2.1 + (s - (R C).2.2).toNat) (un := u) hG hl hR hM la (by omega) a1 a2 (Nat.mul_pos (by omega) (pow10_pos _)) (by omega) (fun f' x13 c1 c2 => ?_) (dg (R A).2.1 + (s - (R A).2.2).toNat) 0 f0 none (by omega) (fun j hj => by rw [b1 j hj]; decide) (by rw [z0, tv_z.mpr (fun j hj => b1 j (by omega))]; simp)
      refine zm_go (okm_Mo_remainder hG hl) [270] 200 ?_
      conv => whnf
      refine ⟨?_, trivial⟩
      try dsimp only
      rw [nI_1]
      refine w_rem270 (n := dg (R C).2.1 + (s - (R C).2.2).toNat + 1) (lf := f') hG hl (by omega) rfl (fun g' d1 d2 => ?_) (dg (R C).2.1 + (s - (R C).2.2).toNat + 1) 0 rw (by omega) (fun j hj => by omega) (fun j _ => rfl)
      have d3 : ∀ i, g' i < 10 := fun i => by
        by_cases q : i < dg (R C).2.1 + (s - (R C).2.2).toNat + 1
        · rw [d1 i q]; exact c1 i (by omega)
        · rw [d2 i (by omega)]; exact hd i
      refine zm_go (okm_Mo_remainder hG hl) [] 200 ?_
      conv => whnf
      refine ⟨((R A).1), rfl, ?_⟩
      conv => whnf
      refine ⟨false, rfl, ?_⟩
      conv => whnf
      refine k_storeA hG hl hR hM lt (by omega) d3 (by omega) ?_
      rw [tv_congr d1, c2]
      refine Res.imp hq (fun m hm => ?_)
      conv => whnf
      exact ⟨hm, trivial⟩
    · refine ⟨fun z => absurd (cmpN_neg.mp z) hle, fun _ => ?_⟩
      refine ⟨?_, trivial⟩
      try dsimp only
      exact small (Or.inr (by omega))
theorem k_remainder (hG : zd_G B) (hl : l.stackTraces = false) {R : Nat → zr} (hR : ROk R) (hM : MR R K Mn Mi Sc) {a b to : Int} (ha : iR a) (hb2 : iR b) (hto : iR to) (hd : ∀ i, rw i < 10)
    (hb : ((a < 0 ∨ 10 ≤ a) ∨ (b < 0 ∨ 10 ≤ b) ∨ (to < 0 ∨ 10 ≤ to)) → Q none (mS (1) ln sz sc mo be ts us lz pr fa D K Mn Mi Sc rw tp un lf pa))
    (hz : ¬ ((a < 0 ∨ 10 ≤ a) ∨ (b < 0 ∨ 10 ≤ b) ∨ (to < 0 ∨ 10 ≤ to)) → ∀ C : Nat, b = C → (R C).2.1 = 0 → Q none (mS (2) ln sz sc mo be ts us lz pr fa D K Mn Mi Sc rw tp un lf pa))
    (hq : ∀ A C T : Nat, a = A → b = C → to = T → A < 10 → C < 10 → T < 10 → (R C).2.1 ≠ 0 → Res Q R T 0 ln pr 2 D pa K Mn Mi Sc (R A).1 (sp_rem (R A) (R C))) : zm_M l B gM m_Mo_remainder [.ref 53, .int (iI a), .int (iI b), .int (iI to)] (mS t ln sz sc mo be ts us lz pr fa D K Mn Mi Sc rw tp un lf pa) Q := by
  have bad : ((a < 0 ∨ 10 ≤ a) ∨ (b < 0 ∨ 10 ≤ b) ∨ (to < 0 ∨ 10 ≤ to)) → zm_W l B gM m_Mo_remainder 22 [some (.ref 53), some (.int (iI a)), some (.int (iI b)), some (.int (iI to)), none, none, none, none, none, none, none, none, none, none] [.ref 53] (mS t ln sz sc mo be ts us lz pr fa D K Mn Mi Sc rw tp un lf pa) Q := by
    intro hc
    refine zm_go (okm_Mo_remainder hG hl) [] 200 ?_
    conv => whnf
    refine ⟨fun z => absurd z (by decide), fun _ => ?_⟩
    conv => whnf
    exact ⟨hb hc, trivial⟩
  refine zm_go (okm_Mo_remainder hG hl) [22, 89] 200 ?_
  conv => whnf
  refine k_no hG hl ha ?_
  by_cases ca : a < 0 ∨ 10 ≤ a
  · rw [decide_eq_true ca]
    conv => whnf
    refine ⟨fun _ => ?_, fun z => absurd z (by decide)⟩
    refine ⟨?_, trivial⟩
    try dsimp only
    exact bad (Or.inl ca)
  · rw [decide_eq_false ca]
    conv => whnf
    refine ⟨fun z => absurd rfl z, fun _ => ?_⟩
    conv => whnf
    refine k_no hG hl hb2 ?_
    by_cases cb : b < 0 ∨ 10 ≤ b
    · rw [decide_eq_true cb]
      conv => whnf
      refine ⟨fun _ => ?_, fun z => absurd z (by decide)⟩
      refine ⟨?_, trivial⟩
      try dsimp only
      exact bad (Or.inr (Or.inl cb))
    · rw [decide_eq_false cb]
      conv => whnf
      refine ⟨fun z => absurd rfl z, fun _ => ?_⟩
      conv => whnf
      refine k_no hG hl hto ?_
      by_cases cto : to < 0 ∨ 10 ≤ to
      · rw [decide_eq_true cto]
        conv => whnf
        refine ⟨fun z => absurd z (by decide), fun _ => ?_⟩
        refine ⟨?_, trivial⟩
        try dsimp only
        exact bad (Or.inr (Or.inr cto))
      · rw [decide_eq_false cto]
        conv => whnf
        refine ⟨fun _ => ?_, fun z => absurd rfl z⟩
        conv => whnf
        obtain ⟨A, ea, la⟩ := iI_of_nat ca
        obtain ⟨C, eb, lb⟩ := iI_of_nat cb
        obtain ⟨T, et, lt⟩ := iI_of_nat cto
        have hzz := hz (by omega) C eb
        have hqq := hq A C T ea eb et la lb lt
        subst ea
        subst eb
        subst et
        rw [← iI_nI, ← iI_nI, ← iI_nI]
        obtain ⟨ma, ka, na, sa⟩ := hM.2 A la
        obtain ⟨mb, kb, nb, sb⟩ := hM.2 C lb
        obtain ⟨ra, ra2, ra3, -⟩ := hR A la
        obtain ⟨rb, rb2, rb3, -⟩ := hR C lb
        refine k_isZero hG hl hM lb ?_
        conv => whnf
        by_cases ez : (R C).2.1 = 0
        · rw [decide_eq_true ez]
          refine ⟨fun z => absurd z (by decide), fun _ => ?_⟩
          conv => whnf
          refine ⟨fun z => absurd z (by decide), fun _ => ?_⟩
          conv => whnf
          exact ⟨hzz ez, trivial⟩
        · rw [decide_eq_false ez]
          refine ⟨fun _ => ?_, fun z => absurd rfl z⟩
          conv => whnf
          refine ⟨fun _ => ?_, fun z => absurd (by decide) z⟩
          conv => whnf
          have w := w_rem89 (Q := Q) (s := max (R A).2.2 (R C).2.2) (t := 0) (ln := ln) (sz := sz) (sc := sc) (mo := mo) (be := be) (ts := ts) (us := us) (lz := lz) (pr := pr) (fa := 2) (D := D) (tp := tp) (un := un) (lf := lf) (pa := pa) hG hl hR hM la lb lt hd ez rfl rfl rfl (hqq ez)
          refine ⟨A, rfl, by omega, ?_⟩
          conv => whnf
          refine ⟨C, rfl, by omega, ?_⟩
          conv => whnf
          dsimp only
          rw [sa, sb]
          by_cases hle : (R A).2.2 ≤ (R C).2.2
          · refine ⟨fun _ => ?_, fun z => absurd ((iI_le ⟨by omega, by omega⟩ ⟨by omega, by omega⟩).mpr hle) z⟩
            conv => whnf
            refine ⟨C, rfl, by omega, ?_⟩
            conv => whnf
            refine ⟨?_, trivial⟩
            try dsimp only
            rw [sb, iI_l ⟨by omega, by omega⟩]
            rw [show max (R A).2.2 (R C).2.2 = (R C).2.2 by omega] at w
            exact w
          · refine ⟨fun z => absurd ((iI_le ⟨by omega, by omega⟩ ⟨by omega, by omega⟩).mp z) hle, fun _ => ?_⟩
            conv => whnf
            refine ⟨A, rfl, by omega, ?_⟩
            conv => whnf
            refine ⟨?_, trivial⟩
            try dsimp only
            rw [sa, iI_l ⟨by omega, by omega⟩]
            rw [show max (R A).2.2 (R C).2.2 = (R A).2.2 by omega] at w
            exact w
end KR

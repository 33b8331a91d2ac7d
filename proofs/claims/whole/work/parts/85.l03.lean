/-! the desk: put, multiply, toScale, round, strip, shift, negate -/
theorem ROk.lt {R : Nat → zr} (hR : ROk R) {i : Nat} (hi : i < 10) : (R i).2.1 < 10 ^ 2034 := Nat.lt_of_lt_of_le (dg_lt _) (Nat.pow_le_pow_right (by decide) (Nat.le_trans (hR i hi).1 (by decide)))
theorem dg31 {V : Nat} (h : V < 10 ^ 2034) : dg V < 2 ^ 31 := Nat.lt_of_le_of_lt ((dg_le_iff (n := 2034) (by decide)).mpr h) (by decide)
theorem Cres.congr {Q : Option Value ⊕ Nat → zx → Prop} {R : Nat → zr} {T : Nat} {ng : Bool} {o o' : Option (Nat × Int)} (h : Cres Q R T ng o) (e : fin o' = fin o) : Cres Q R T ng o' := by
  unfold Cres at *
  rw [e]
  exact h
theorem Cres.imp {Q Q' : Option Value ⊕ Nat → zx → Prop} {R : Nat → zr} {T : Nat} {ng : Bool} {o : Option (Nat × Int)} (h : Cres Q R T ng o) (h1 : ∀ a, Q (.inl none) a → Q' (.inl none) a) (h2 : ∀ a, Q (.inr 11) a → Q' (.inr 11) a) : Cres Q' R T ng o :=
  ⟨fun V s e r v o' c => h1 _ (h.1 V s e r v o' c), fun e r v o' c => h2 _ (h.2 e r v o' c)⟩
theorem bI_inj {a b : Bool} (h : bI a = bI b) : a = b := by
  cases a <;> cases b
  · rfl
  · exact absurd h (by decide)
  · exact absurd h (by decide)
  · rfl
theorem rnd_le {md : Nat} {ng : Bool} {q g : Nat} {b : Bool} {p : Nat} (h : rnd md ng q g b = some p) : p ≤ q + 1 := by
  unfold rnd at h
  split at h
  · cases h; omega
  · split at h
    · cases h
    · cases h
      cases outw md ng g b q <;> simp
theorem ts_big {V : Nat} {s w : Int} {md : Nat} {ng : Bool} (hV : V ≠ 0) (h : 1000 < (dg V : Int) + (w - s)) (h1 : dg V ≤ 1000) : fin (sp_ts V s w md ng) = none := by
  have e := cut_guard_up (V := V) (s := s) (w := w) (by omega)
  unfold sp_ts
  rw [e.1, e.2.1, e.2.2]
  have : rnd md ng (V * 10 ^ (w - s).toNat) 0 false = some (V * 10 ^ (w - s).toNat) := if_pos ⟨rfl, rfl⟩
  rw [this]
  show fin (some (_, w)) = none
  rw [fin_some, if_neg]
  rw [dg_mul_pow hV]
  omega
theorem p2034 : (10 : Nat) ^ 2034 = 10 ^ 2033 * 10 := by rw [show (2034 : Nat) = 2033 + 1 from rfl, Nat.pow_succ]
theorem lt_div10 {V q : Nat} (hV : V < 10 ^ 2034) (hq : q ≤ V / 10 + 1) : q < 10 ^ 2034 := by
  have : 10 ^ 1 ≤ 10 ^ 2033 := Nat.pow_le_pow_right (by decide) (by decide)
  rw [p2034] at hV ⊢
  generalize (10 : Nat) ^ 2033 = P at *
  omega
section LC
variable {l : Launch} {B : zd_B} {Q : Option Value ⊕ Nat → zx → Prop} {R : Nat → zr} {r : Int32 × Int32 × Int32} {v o c : Option Nat} {st : zx}
theorem j_put (hG : zd_G B) (hl : l.stackTraces = false) {to x s : Int} (hto : iR to) (hx : lR x) (hs : iR s)
    (hb : (to < 0 ∨ 10 ≤ to) → Q (.inr 9) (R, r, v, o, c))
    (hq : ∀ T : Nat, to = T → T < 10 → Cres Q R T (decide (x < 0)) (some (x.natAbs, s))) : zx_M l B m_De_put [.ref 0, .int (iI to), .long (lI x), .int (iI s)] (R, r, v, o, c) Q := by
  have hd : dg x.natAbs < 2 ^ 31 := by
    have h1 := hx.1
    have h2 := hx.2
    have : dg x.natAbs ≤ 20 := (dg_le_iff (by decide)).mpr (by omega)
    omega
  refine zx_go (okx_De_put hG hl) [30] 200 ?_
  conv => whnf
  refine j_reg hG hl hto (fun c1 => ?_) hb
  obtain ⟨T, rfl, hT⟩ := iI_of_nat c1
  conv => whnf
  refine ⟨rc_47, ?_⟩
  refine x_become47 hG hl hx ?_
  conv => whnf
  have main : zx_W l B m_De_put 30 [some (.ref 0), some (.int (iI T)), some (.long (lI x)), none, some (.int (iI s))] [.int (bI (decide (x < 0))), .ref 46] (R, r, some x.natAbs, o, c) Q := by
    refine zx_go (okx_De_put hG hl) [] 200 ?_
    conv => whnf
    refine ⟨rc_46, ?_⟩
    refine j_describe hG hl ?_
    conv => whnf
    refine ⟨rc_0, ?_⟩
    refine j_keep hG hl hT hs hd ?_
    exact (hq T rfl hT).imp (fun _ h => And.intro h trivial) (fun _ h => h)
  by_cases c2 : x < 0
  · rw [decide_eq_true c2] at main
    refine ⟨fun z => absurd ((lg_cmp_ge _ _).mp z) (fun q => absurd ((lI_le (a := 0) ⟨by decide, by decide⟩ hx).mp q) (by omega)), fun _ => ?_⟩
    conv => whnf
    refine ⟨?_, trivial⟩
    try dsimp only
    exact main
  · rw [decide_eq_false c2] at main
    refine ⟨fun _ => ?_, fun z => absurd ((lg_cmp_ge _ _).mpr ((lI_le (a := 0) ⟨by decide, by decide⟩ hx).mpr (by omega))) z⟩
    conv => whnf
    refine ⟨?_, trivial⟩
    try dsimp only
    exact main
theorem j_multiply (hG : zd_G B) (hl : l.stackTraces = false) (hR : ROk R) {a b to : Int} (ha : iR a) (hb2 : iR b) (hto : iR to)
    (hb : ((a < 0 ∨ 10 ≤ a) ∨ (b < 0 ∨ 10 ≤ b) ∨ (to < 0 ∨ 10 ≤ to)) → Q (.inr 9) (R, r, v, o, c))
    (hq : ∀ A C T : Nat, a = A → b = C → to = T → A < 10 → C < 10 → T < 10 → Cres Q R T ((R A).1 != (R C).1) (some ((R A).2.1 * (R C).2.1, (R A).2.2 + (R C).2.2))) : zx_M l B m_De_multiply [.ref 0, .int (iI a), .int (iI b), .int (iI to)] (R, r, v, o, c) Q := by
  refine zx_go (okx_De_multiply hG hl) [64] 200 ?_
  conv => whnf
  refine j_reg3 hG hl ha hb2 hto (fun c1 c2 c3 => ?_) hb
  obtain ⟨A, rfl, hA⟩ := iI_of_nat c1
  obtain ⟨C, rfl, hC⟩ := iI_of_nat c2
  obtain ⟨T, rfl, hT⟩ := iI_of_nat c3
  obtain ⟨a1, a2, a3, -⟩ := hR A hA
  obtain ⟨b1, b2, b3, -⟩ := hR C hC
  conv => whnf
  refine ⟨A, rfl, hA, ?_⟩
  conv => whnf
  refine ⟨C, rfl, hC, ?_⟩
  conv => whnf
  refine ⟨A, rfl, hA, ?_⟩
  conv => whnf
  refine ⟨C, rfl, hC, ?_⟩
  conv => whnf
  refine ⟨rc_47, ?_⟩
  refine x_prod47 hG hl hA hC ?_
  conv => whnf
  refine ⟨A, rfl, hA, ?_⟩
  conv => whnf
  refine ⟨C, rfl, hC, ?_⟩
  conv => whnf
  have main : zx_W l B m_De_multiply 64 [some (.ref 0), some (.int (iI A)), some (.int (iI C)), some (.int (iI T)), some (.ref (2 + 3 * A : Nat)), some (.ref (2 + 3 * C : Nat))] [.int (bI ((R A).1 != (R C).1)), .ref 46] (R, r, some ((R A).2.1 * (R C).2.1), o, c) Q := by
    refine zx_go (okx_De_multiply hG hl) [] 200 ?_
    conv => whnf
    refine ⟨A, rfl, hA, ?_⟩
    conv => whnf
    refine ⟨C, rfl, hC, ?_⟩
    conv => whnf
    rw [iI_add]
    refine ⟨rc_46, ?_⟩
    refine j_describe hG hl ?_
    conv => whnf
    refine ⟨rc_0, ?_⟩
    refine j_keep hG hl hT (s := (R A).2.2 + (R C).2.2) ⟨by omega, by omega⟩ (dg31 ?_) ?_
    · have h1 : (R A).2.1 < 10 ^ 1000 := Nat.lt_of_lt_of_le (dg_lt _) (Nat.pow_le_pow_right (by decide) a1)
      have h2 : (R C).2.1 < 10 ^ 1000 := Nat.lt_of_lt_of_le (dg_lt _) (Nat.pow_le_pow_right (by decide) b1)
      have h3 := Nat.mul_lt_mul'' h1 h2
      rw [← Nat.pow_add] at h3
      exact Nat.lt_of_lt_of_le h3 (Nat.pow_le_pow_right (by decide) (by decide))
    · exact (hq A C T rfl rfl rfl hA hC hT).imp (fun _ h => And.intro h trivial) (fun _ h => h)
  refine ⟨fun z => ?_, fun z => ?_⟩
  · have e : ((R A).1 != (R C).1) = false := by rw [bI_inj z]; exact bne_self_eq_false _
    rw [e] at main
    conv => whnf
    refine ⟨?_, trivial⟩
    try dsimp only
    exact main
  · have e : ((R A).1 != (R C).1) = true := bne_iff_ne.mpr (fun q => z (by rw [q]))
    rw [e] at main
    conv => whnf
    refine ⟨?_, trivial⟩
    try dsimp only
    exact main
theorem j_toScale (hG : zd_G B) (hl : l.stackTraces = false) (hR : ROk R) {a to s md : Int} (ha : iR a) (hto : iR to) (hs : iR s) (hmd : iR md)
    (hb : ((a < 0 ∨ 10 ≤ a) ∨ (to < 0 ∨ 10 ≤ to) ∨ (md < 0 ∨ 8 ≤ md) ∨ s < -10000 ∨ 10000 < s) → Q (.inr 9) (R, r, v, o, c))
    (hq : ∀ A T M : Nat, a = A → to = T → md = M → A < 10 → T < 10 → M < 8 → -10000 ≤ s → s ≤ 10000 → Cres Q R T (R A).1 (sp_ts (R A).2.1 (R A).2.2 s M (R A).1)) : zx_M l B m_De_toScale [.ref 0, .int (iI a), .int (iI to), .int (iI s), .int (iI md)] (R, r, v, o, c) Q := by
  refine zx_go (okx_De_toScale hG hl) [] 200 ?_
  conv => whnf
  refine j_reg2 hG hl ha hto (fun c1 c2 => ?_) (fun q => hb (by omega))
  conv => whnf
  refine j_mode hG hl hmd (fun c3 => ?_) (fun q => hb (by omega))
  conv => whnf
  refine j_wscale hG hl hs (fun s1 s2 => ?_) (fun q => hb (by omega))
  obtain ⟨A, rfl, hA⟩ := iI_of_nat c1
  obtain ⟨T, rfl, hT⟩ := iI_of_nat c2
  obtain ⟨M, rfl, hM⟩ := iI_of_nat8 c3
  obtain ⟨a1, a2, a3, -⟩ := hR A hA
  have hq := hq A T M rfl rfl rfl hA hT hM s1 s2
  conv => whnf
  refine ⟨A, rfl, hA, ?_⟩
  conv => whnf
  refine ⟨rc_46, ?_⟩
  refine j_take hG hl hA ?_
  conv => whnf
  rw [show iI s + 1 = iI (s + 1) from iI_add s 1]
  refine ⟨rc_46, ?_⟩
  refine j_cutTo hG hl (by omega) (fun hr => ?_) (fun h1 h2 h3 => hq.2 ?_ _ _ _ _)
  · conv => whnf
    refine ⟨rc_46, ?_⟩
    refine j_drop hG hl hM (cutV_room hr (hR.lt hA)) (fun q e => ?_) (fun e r v => hq.2 ?_ _ _ _ _)
    · conv => whnf
      refine ⟨rc_0, ?_⟩
      rw [show s + 1 - 1 = s by omega]
      have hz : sp_ts (R A).2.1 (R A).2.2 s M (R A).1 = some (q, s) := by
        unfold sp_ts
        rw [Bool.false_or] at e
        rw [e]
        rfl
      refine j_keep hG hl hT hs (dg31 ?_) ?_
      · exact lt_div10 (cutV_room hr (hR.lt hA)) (rnd_le e)
      · rw [hz] at hq
        exact hq.imp (fun _ h => And.intro h trivial) (fun _ h => h)
    · unfold sp_ts
      rw [Bool.false_or] at e
      rw [e]
      rfl
  · exact ts_big h1 (by omega) a1
theorem j_round (hG : zd_G B) (hl : l.stackTraces = false) (hR : ROk R) {a to p md : Int} (ha : iR a) (hto : iR to) (hp : iR p) (hmd : iR md)
    (hb : ((a < 0 ∨ 10 ≤ a) ∨ (to < 0 ∨ 10 ≤ to) ∨ (md < 0 ∨ 8 ≤ md) ∨ p < 1 ∨ 1000 < p) → Q (.inr 9) (R, r, v, o, c))
    (hq : ∀ A T M P : Nat, a = A → to = T → md = M → p = P → A < 10 → T < 10 → M < 8 → 1 ≤ P → P ≤ 1000 → Cres Q R T (R A).1 (fit P (R A).2.2 M (R A).1 (R A).2.1 (R A).2.2 false)) : zx_M l B m_De_round [.ref 0, .int (iI a), .int (iI to), .int (iI p), .int (iI md)] (R, r, v, o, c) Q := by
  refine zx_go (okx_De_round hG hl) [] 200 ?_
  conv => whnf
  refine j_reg2 hG hl ha hto (fun c1 c2 => ?_) (fun q => hb (by omega))
  conv => whnf
  refine j_mode hG hl hmd (fun c3 => ?_) (fun q => hb (by omega))
  conv => whnf
  refine j_prec hG hl hp (b := 1) ⟨by decide, by decide⟩ (fun c4 => ?_) (fun q => hb (by omega))
  obtain ⟨A, rfl, hA⟩ := iI_of_nat c1
  obtain ⟨T, rfl, hT⟩ := iI_of_nat c2
  obtain ⟨M, rfl, hM⟩ := iI_of_nat8 c3
  obtain ⟨P, rfl, hP⟩ : ∃ P : Nat, p = P ∧ (1 ≤ P ∧ P ≤ 1000) := ⟨p.toNat, by omega, by omega, by omega⟩
  obtain ⟨a1, a2, a3, -⟩ := hR A hA
  have hq := hq A T M P rfl rfl rfl rfl hA hT hM hP.1 hP.2
  conv => whnf
  refine ⟨A, rfl, hA, ?_⟩
  conv => whnf
  refine ⟨rc_46, ?_⟩
  refine j_take hG hl hA ?_
  conv => whnf
  refine ⟨A, rfl, hA, ?_⟩
  conv => whnf
  refine ⟨rc_46, ?_⟩
  refine j_fit hG hl hM hP.1 hP.2 (hR.lt hA) (Or.inr rfl) (s := (R A).2.2) (wish := (R A).2.2) (by omega) (by omega) (fun V' s' lo' e h1 h2 h3 => ?_) (fun e r v => hq.2 (by rw [e]; rfl) _ _ _ _)
  conv => whnf
  refine ⟨rc_0, ?_⟩
  rw [e] at hq
  exact j_keep hG hl hT ⟨by omega, by omega⟩ (dg31 h1) (hq.imp (fun _ h => And.intro h trivial) (fun _ h => h))
theorem j_strip (hG : zd_G B) (hl : l.stackTraces = false) (hR : ROk R) {a to : Int} (ha : iR a) (hto : iR to)
    (hb : ((a < 0 ∨ 10 ≤ a) ∨ (to < 0 ∨ 10 ≤ to)) → Q (.inr 9) (R, r, v, o, c))
    (hq : ∀ A T : Nat, a = A → to = T → A < 10 → T < 10 → Cres Q R T (R A).1 (sp_strip (R A).2.1 (R A).2.2)) : zx_M l B m_De_strip [.ref 0, .int (iI a), .int (iI to)] (R, r, v, o, c) Q := by
  refine zx_go (okx_De_strip hG hl) [] 200 ?_
  conv => whnf
  refine j_reg2 hG hl ha hto (fun c1 c2 => ?_) (fun q => hb (by omega))
  obtain ⟨A, rfl, hA⟩ := iI_of_nat c1
  obtain ⟨T, rfl, hT⟩ := iI_of_nat c2
  obtain ⟨a1, a2, a3, -⟩ := hR A hA
  have hq := hq A T rfl rfl hA hT
  unfold sp_strip at hq
  conv => whnf
  refine ⟨A, rfl, hA, ?_⟩
  conv => whnf
  refine ⟨rc_46, ?_⟩
  refine j_take hG hl hA ?_
  conv => whnf
  refine ⟨rc_47, ?_⟩
  refine x_isZero47 hG hl ?_
  by_cases hz : (R A).2.1 = 0
  · rw [decide_eq_true hz]
    rw [if_pos hz] at hq
    conv => whnf
    refine ⟨fun z => absurd z (show ¬ bI true = 0 by decide), fun _ => ?_⟩
    conv => whnf
    refine ⟨rc_0, ?_⟩
    rw [hz, show (0 : Int32) = iI 0 from rfl]
    exact j_keep hG hl hT ⟨by decide, by decide⟩ (by rw [dg_0]; decide) (hq.imp (fun _ h => And.intro h trivial) (fun _ h => h))
  · rw [decide_eq_false hz]
    rw [if_neg hz] at hq
    have ht := tz_lt_dg hz
    conv => whnf
    refine ⟨fun _ => ?_, fun z => absurd rfl z⟩
    conv => whnf
    refine ⟨rc_47, ?_⟩
    refine x_tz47 hG hl hz ?_
    conv => whnf
    rw [iI_nI (tz _), iI_sub]
    refine ⟨rc_46, ?_⟩
    refine j_cutTo hG hl (by omega) (fun hr => ?_) (fun h1 h2 h3 => by omega)
    conv => whnf
    refine ⟨rc_0, ?_⟩
    rw [(cutV_dn (V := (R A).2.1) (s := (R A).2.2) (w := (R A).2.2 - tz (R A).2.1) (by omega)).1, show ((R A).2.2 - ((R A).2.2 - (tz (R A).2.1 : Int))).toNat = tz (R A).2.1 by omega]
    exact j_keep hG hl hT (s := (R A).2.2 - tz (R A).2.1) ⟨by omega, by omega⟩ (dg31 (Nat.lt_of_le_of_lt (Nat.div_le_self _ _) (hR.lt hA))) (hq.imp (fun _ h => And.intro h trivial) (fun _ h => h))
theorem j_shift (hG : zd_G B) (hl : l.stackTraces = false) (hR : ROk R) {a to n : Int} (ha : iR a) (hto : iR to) (hn : iR n)
    (hb : ((a < 0 ∨ 10 ≤ a) ∨ (to < 0 ∨ 10 ≤ to)) → Q (.inr 9) (R, r, v, o, c))
    (hq : ∀ A T : Nat, a = A → to = T → A < 10 → T < 10 → Cres Q R T (R A).1 (some ((R A).2.1, (R A).2.2 - n))) : zx_M l B m_De_shift [.ref 0, .int (iI a), .int (iI to), .int (iI n)] (R, r, v, o, c) Q := by
  refine zx_go (okx_De_shift hG hl) [] 200 ?_
  conv => whnf
  refine j_reg2 hG hl ha hto (fun c1 c2 => ?_) (fun q => hb (by omega))
  obtain ⟨A, rfl, hA⟩ := iI_of_nat c1
  obtain ⟨T, rfl, hT⟩ := iI_of_nat c2
  obtain ⟨a1, a2, a3, -⟩ := hR A hA
  have hn1 := hn.1
  have hn2 := hn.2
  have hq := hq A T rfl rfl hA hT
  conv => whnf
  refine ⟨A, rfl, hA, ?_⟩
  conv => whnf
  refine ⟨A, rfl, hA, ?_⟩
  conv => whnf
  dsimp only
  rw [iI_l ⟨by omega, by omega⟩, iI_l hn, lI_sub]
  refine j_scale hG hl ⟨by omega, by omega⟩ (fun s1 s2 => ?_) (fun q => hq.2 (by rw [fin_some, if_neg (by omega)]) _ _ _ _)
  conv => whnf
  refine ⟨A, rfl, hA, ?_⟩
  conv => whnf
  refine ⟨rc_46, ?_⟩
  refine j_take hG hl hA ?_
  conv => whnf
  refine ⟨rc_0, ?_⟩
  rw [lI_i]
  exact j_keep hG hl hT ⟨by omega, by omega⟩ (dg31 (hR.lt hA)) (hq.imp (fun _ h => And.intro h trivial) (fun _ h => h))
theorem j_negate (hG : zd_G B) (hl : l.stackTraces = false) (hR : ROk R) {a to : Int} (ha : iR a) (hto : iR to)
    (hb : ((a < 0 ∨ 10 ≤ a) ∨ (to < 0 ∨ 10 ≤ to)) → Q (.inr 9) (R, r, v, o, c))
    (hq : ∀ A T : Nat, a = A → to = T → A < 10 → T < 10 → Cres Q R T (!(R A).1) (some ((R A).2.1, (R A).2.2))) : zx_M l B m_De_negate [.ref 0, .int (iI a), .int (iI to)] (R, r, v, o, c) Q := by
  refine zx_go (okx_De_negate hG hl) [37] 200 ?_
  conv => whnf
  refine j_reg2 hG hl ha hto (fun c1 c2 => ?_) (fun q => hb (by omega))
  obtain ⟨A, rfl, hA⟩ := iI_of_nat c1
  obtain ⟨T, rfl, hT⟩ := iI_of_nat c2
  obtain ⟨a1, a2, a3, -⟩ := hR A hA
  have hq := hq A T rfl rfl hA hT
  conv => whnf
  refine ⟨A, rfl, hA, ?_⟩
  conv => whnf
  refine ⟨rc_46, ?_⟩
  refine j_take hG hl hA ?_
  conv => whnf
  have main : zx_W l B m_De_negate 37 [some (.ref 0), some (.int (iI A)), some (.int (iI T))] [.int (bI (!(R A).1)), .ref 46] (R, (bI (R A).1, iI (R A).2.2, bI false), some (R A).2.1, o, c) Q := by
    refine zx_go (okx_De_negate hG hl) [] 200 ?_
    conv => whnf
    refine ⟨(!(R A).1), rfl, ?_⟩
    conv => whnf
    refine ⟨rc_0, ?_⟩
    exact j_keep hG hl hT ⟨by omega, by omega⟩ (dg31 (hR.lt hA)) (hq.imp (fun _ h => And.intro h trivial) (fun _ h => h))
  cases hn : (R A).1
  · rw [hn] at main
    refine ⟨fun z => absurd rfl z, fun _ => ?_⟩
    conv => whnf
    refine ⟨?_, trivial⟩
    try dsimp only
    exact main
  · rw [hn] at main
    refine ⟨fun _ => ?_, fun z => absurd z (show ¬ bI true = 0 by decide)⟩
    conv => whnf
    refine ⟨?_, trivial⟩
    try dsimp only
    exact main
end LC

/-! the model's calls on registers -/
def G_put (R : Nat → zr) (to : Int) (x : Int) (s : Int) : Nat × (Nat → zr) := gen R ((to < 0 ∨ 10 ≤ to)) (False) to.toNat (decide (x < 0)) (some (x.natAbs, s))
def G_add (R : Nat → zr) (a : Int) (b : Int) (to : Int) (less : Bool) : Nat × (Nat → zr) := gen R ((a < 0 ∨ 10 ≤ a) ∨ (b < 0 ∨ 10 ≤ b) ∨ (to < 0 ∨ 10 ≤ to)) (False) to.toNat (sp_addV (R a.toNat) (R b.toNat) less).1 (some ((sp_addV (R a.toNat) (R b.toNat) less).2, max (R a.toNat).2.2 (R b.toNat).2.2))
def G_multiply (R : Nat → zr) (a : Int) (b : Int) (to : Int) : Nat × (Nat → zr) := gen R ((a < 0 ∨ 10 ≤ a) ∨ (b < 0 ∨ 10 ≤ b) ∨ (to < 0 ∨ 10 ≤ to)) (False) to.toNat ((R a.toNat).1 != (R b.toNat).1) (some ((R a.toNat).2.1 * (R b.toNat).2.1, (R a.toNat).2.2 + (R b.toNat).2.2))
def G_divide (R : Nat → zr) (a : Int) (b : Int) (to : Int) (s : Int) (md : Int) : Nat × (Nat → zr) := gen R ((a < 0 ∨ 10 ≤ a) ∨ (b < 0 ∨ 10 ≤ b) ∨ (to < 0 ∨ 10 ≤ to) ∨ (md < 0 ∨ 8 ≤ md) ∨ s < -10000 ∨ 10000 < s) ((R b.toNat).2.1 = 0) to.toNat ((R a.toNat).1 != (R b.toNat).1) (sp_div (R a.toNat) (R b.toNat) s md.toNat)
def G_quotient (R : Nat → zr) (a : Int) (b : Int) (to : Int) (p : Int) (md : Int) : Nat × (Nat → zr) := gen R ((a < 0 ∨ 10 ≤ a) ∨ (b < 0 ∨ 10 ≤ b) ∨ (to < 0 ∨ 10 ≤ to) ∨ (md < 0 ∨ 8 ≤ md) ∨ p < 0 ∨ 1000 < p) ((R b.toNat).2.1 = 0) to.toNat ((R a.toNat).1 != (R b.toNat).1) (sp_quo (R a.toNat) (R b.toNat) p.toNat md.toNat)
def G_remainder (R : Nat → zr) (a : Int) (b : Int) (to : Int) : Nat × (Nat → zr) := gen R ((a < 0 ∨ 10 ≤ a) ∨ (b < 0 ∨ 10 ≤ b) ∨ (to < 0 ∨ 10 ≤ to)) ((R b.toNat).2.1 = 0) to.toNat (R a.toNat).1 (sp_rem (R a.toNat) (R b.toNat))
def G_power (R : Nat → zr) (a : Int) (n : Int) (to : Int) : Nat × (Nat → zr) := gen R ((a < 0 ∨ 10 ≤ a) ∨ (to < 0 ∨ 10 ≤ to) ∨ n < 0 ∨ 999 < n) (False) to.toNat ((R a.toNat).1 && decide (n.toNat % 2 = 1)) (some ((R a.toNat).2.1 ^ n.toNat, (n.toNat : Int) * (R a.toNat).2.2))
def G_root (R : Nat → zr) (a : Int) (to : Int) (p : Int) (md : Int) : Nat × (Nat → zr) := gen R ((a < 0 ∨ 10 ≤ a) ∨ (to < 0 ∨ 10 ≤ to) ∨ (md < 0 ∨ 8 ≤ md) ∨ p < 1 ∨ 1000 < p) ((R a.toNat).1 = true) to.toNat false (sp_root (R a.toNat) p.toNat md.toNat)
def G_toScale (R : Nat → zr) (a : Int) (to : Int) (s : Int) (md : Int) : Nat × (Nat → zr) := gen R ((a < 0 ∨ 10 ≤ a) ∨ (to < 0 ∨ 10 ≤ to) ∨ (md < 0 ∨ 8 ≤ md) ∨ s < -10000 ∨ 10000 < s) (False) to.toNat (R a.toNat).1 (sp_ts (R a.toNat).2.1 (R a.toNat).2.2 s md.toNat (R a.toNat).1)
def G_round (R : Nat → zr) (a : Int) (to : Int) (p : Int) (md : Int) : Nat × (Nat → zr) := gen R ((a < 0 ∨ 10 ≤ a) ∨ (to < 0 ∨ 10 ≤ to) ∨ (md < 0 ∨ 8 ≤ md) ∨ p < 1 ∨ 1000 < p) (False) to.toNat (R a.toNat).1 (fit p.toNat (R a.toNat).2.2 md.toNat (R a.toNat).1 (R a.toNat).2.1 (R a.toNat).2.2 false)
def G_strip (R : Nat → zr) (a : Int) (to : Int) : Nat × (Nat → zr) := gen R ((a < 0 ∨ 10 ≤ a) ∨ (to < 0 ∨ 10 ≤ to)) (False) to.toNat (R a.toNat).1 (sp_strip (R a.toNat).2.1 (R a.toNat).2.2)
def G_shift (R : Nat → zr) (a : Int) (to : Int) (n : Int) : Nat × (Nat → zr) := gen R ((a < 0 ∨ 10 ≤ a) ∨ (to < 0 ∨ 10 ≤ to)) (False) to.toNat (R a.toNat).1 (some ((R a.toNat).2.1, (R a.toNat).2.2 - n))
def G_negate (R : Nat → zr) (a : Int) (to : Int) : Nat × (Nat → zr) := gen R ((a < 0 ∨ 10 ≤ a) ∨ (to < 0 ∨ 10 ≤ to)) (False) to.toNat (!(R a.toNat).1) (some ((R a.toNat).2.1, (R a.toNat).2.2))
section ZA
variable {l : Launch} {B : zd_B} {h : zd_H} {Q : zd_O → zd_H → Prop} {t : Nat} {R : Nat → zr} {D : Nat → Nat} {ln : Nat} {T : List Nat}
theorem mo_put (hG : zd_G B) (hl : l.stackTraces = false) (w : Mw B h t R D ln T) (hR : ROk R) (hc : 64 ≤ h.1) {to x s : Int} (hto : iR to) (hx : lR x) (hs : iR s) (post : ∀ h', Mw B h' (G_put R to x s).1 (G_put R to x s).2 D ln T → h'.1 = h.1 → h'.2.1 = h.2.1 → Ke B h h' (gS B gM) → Q (.inl none) h') : zd_M l B m_Mo_put [.ref (zd_b0 B + 53), .int (iI to), .long (lI x), .int (iI s)] h Q := by
  refine mw_gen (as := [.ref 53, .int (iI to), .long (lI x), .int (iI s)]) (G := G_put R to x s) w hc (fun sz sc mo be ts us lz pr fa K Mn Mi Sc rw tp un lf pa z1 z2 z3 => ?_) post
  refine k_put hG hl hR z1 hto hx hs z3 (fun z => ?_) (fun T e0 h0 => ?_)
  · rw [show G_put R to x s = (1, R) from gen_bad z]
    exact ⟨rfl, sz, sc, mo, be, ts, us, lz, fa, K, Mn, Mi, Sc, rw, tp, un, lf, rfl, z1, z3⟩
  · subst e0
    exact res_gen (by omega) (fun z => z) z1
theorem mo_add (hG : zd_G B) (hl : l.stackTraces = false) (w : Mw B h t R D ln T) (hR : ROk R) (hc : 64 ≤ h.1) {a b to : Int} {less : Bool} (ha : iR a) (hb : iR b) (hto : iR to) (post : ∀ h', Mw B h' (G_add R a b to less).1 (G_add R a b to less).2 D ln T → h'.1 = h.1 → h'.2.1 = h.2.1 → Ke B h h' (gS B gM) → Q (.inl none) h') : zd_M l B m_Mo_add [.ref (zd_b0 B + 53), .int (iI a), .int (iI b), .int (iI to), .int (bI less)] h Q := by
  refine mw_gen (as := [.ref 53, .int (iI a), .int (iI b), .int (iI to), .int (bI less)]) (G := G_add R a b to less) w hc (fun sz sc mo be ts us lz pr fa K Mn Mi Sc rw tp un lf pa z1 z2 z3 => ?_) post
  refine k_add hG hl hR z1 ha hb hto z3 (fun z => ?_) (fun A C T e0 e1 e2 h0 h1 h2 => ?_)
  · rw [show G_add R a b to less = (1, R) from gen_bad z]
    exact ⟨rfl, sz, sc, mo, be, ts, us, lz, fa, K, Mn, Mi, Sc, rw, tp, un, lf, rfl, z1, z3⟩
  · subst e0; subst e1; subst e2
    exact res_gen (by omega) (fun z => z) z1
theorem mo_multiply (hG : zd_G B) (hl : l.stackTraces = false) (w : Mw B h t R D ln T) (hR : ROk R) (hc : 64 ≤ h.1) {a b to : Int} (ha : iR a) (hb : iR b) (hto : iR to) (post : ∀ h', Mw B h' (G_multiply R a b to).1 (G_multiply R a b to).2 D ln T → h'.1 = h.1 → h'.2.1 = h.2.1 → Ke B h h' (gS B gM) → Q (.inl none) h') : zd_M l B m_Mo_multiply [.ref (zd_b0 B + 53), .int (iI a), .int (iI b), .int (iI to)] h Q := by
  refine mw_gen (as := [.ref 53, .int (iI a), .int (iI b), .int (iI to)]) (G := G_multiply R a b to) w hc (fun sz sc mo be ts us lz pr fa K Mn Mi Sc rw tp un lf pa z1 z2 z3 => ?_) post
  refine k_multiply hG hl hR z1 ha hb hto z3 (fun z => ?_) (fun A C T e0 e1 e2 h0 h1 h2 => ?_)
  · rw [show G_multiply R a b to = (1, R) from gen_bad z]
    exact ⟨rfl, sz, sc, mo, be, ts, us, lz, fa, K, Mn, Mi, Sc, rw, tp, un, lf, rfl, z1, z3⟩
  · subst e0; subst e1; subst e2
    exact res_gen (by omega) (fun z => z) z1
theorem mo_divide (hG : zd_G B) (hl : l.stackTraces = false) (w : Mw B h t R D ln T) (hR : ROk R) (hc : 64 ≤ h.1) {a b to s md : Int} (ha : iR a) (hb : iR b) (hto : iR to) (hs : iR s) (hmd : iR md) (post : ∀ h', Mw B h' (G_divide R a b to s md).1 (G_divide R a b to s md).2 D ln T → h'.1 = h.1 → h'.2.1 = h.2.1 → Ke B h h' (gS B gM) → Q (.inl none) h') : zd_M l B m_Mo_divide [.ref (zd_b0 B + 53), .int (iI a), .int (iI b), .int (iI to), .int (iI s), .int (iI md)] h Q := by
  refine mw_gen (as := [.ref 53, .int (iI a), .int (iI b), .int (iI to), .int (iI s), .int (iI md)]) (G := G_divide R a b to s md) w hc (fun sz sc mo be ts us lz pr fa K Mn Mi Sc rw tp un lf pa z1 z2 z3 => ?_) post
  refine k_divide hG hl hR z1 ha hb hto hs hmd z3 (fun z => ?_) (fun z C e0 zz => ?_) (fun A C T M e0 e1 e2 e3 h0 h1 h2 h3 h4 h5 h6 => ?_)
  · rw [show G_divide R a b to s md = (1, R) from gen_bad z]
    exact ⟨rfl, sz, sc, mo, be, ts, us, lz, fa, K, Mn, Mi, Sc, rw, tp, un, lf, rfl, z1, z3⟩
  · subst e0
    have eg := gen_zero (R := R) (zero := (R ((C : Nat) : Int).toNat).2.1 = 0) (T := to.toNat) (ng := ((R a.toNat).1 != (R ((C : Nat) : Int).toNat).1)) (o := (sp_div (R a.toNat) (R ((C : Nat) : Int).toNat) s md.toNat)) z zz
    refine ⟨rfl, sz, sc, mo, be, ts, us, lz, fa, K, Mn, Mi, Sc, rw, tp, un, lf, ?_, ?_, z3⟩
    · show _ = mS (gen _ _ _ _ _ _).1 _ _ _ _ _ _ _ _ _ _ _ _ _ _ _ _ _ _ _ _
      rw [eg]
    · show MR (gen _ _ _ _ _ _).2 _ _ _ _
      rw [eg]
      exact z1
  · subst e0; subst e1; subst e2; subst e3
    exact res_gen (by omega) h6 z1
theorem mo_quotient (hG : zd_G B) (hl : l.stackTraces = false) (w : Mw B h t R D ln T) (hR : ROk R) (hc : 64 ≤ h.1) {a b to p md : Int} (ha : iR a) (hb : iR b) (hto : iR to) (hp : iR p) (hmd : iR md) (post : ∀ h', Mw B h' (G_quotient R a b to p md).1 (G_quotient R a b to p md).2 D ln T → h'.1 = h.1 → h'.2.1 = h.2.1 → Ke B h h' (gS B gM) → Q (.inl none) h') : zd_M l B m_Mo_quotient [.ref (zd_b0 B + 53), .int (iI a), .int (iI b), .int (iI to), .int (iI p), .int (iI md)] h Q := by
  refine mw_gen (as := [.ref 53, .int (iI a), .int (iI b), .int (iI to), .int (iI p), .int (iI md)]) (G := G_quotient R a b to p md) w hc (fun sz sc mo be ts us lz pr fa K Mn Mi Sc rw tp un lf pa z1 z2 z3 => ?_) post
  refine k_quotient hG hl hR z1 ha hb hto hp hmd z3 (fun z => ?_) (fun z C e0 zz => ?_) (fun A C T P M e0 e1 e2 e3 e4 h0 h1 h2 h3 h4 h5 => ?_)
  · rw [show G_quotient R a b to p md = (1, R) from gen_bad z]
    exact ⟨rfl, sz, sc, mo, be, ts, us, lz, fa, K, Mn, Mi, Sc, rw, tp, un, lf, rfl, z1, z3⟩
  · subst e0
    have eg := gen_zero (R := R) (zero := (R ((C : Nat) : Int).toNat).2.1 = 0) (T := to.toNat) (ng := ((R a.toNat).1 != (R ((C : Nat) : Int).toNat).1)) (o := (sp_quo (R a.toNat) (R ((C : Nat) : Int).toNat) p.toNat md.toNat)) z zz
    refine ⟨rfl, sz, sc, mo, be, ts, us, lz, fa, K, Mn, Mi, Sc, rw, tp, un, lf, ?_, ?_, z3⟩
    · show _ = mS (gen _ _ _ _ _ _).1 _ _ _ _ _ _ _ _ _ _ _ _ _ _ _ _ _ _ _ _
      rw [eg]
    · show MR (gen _ _ _ _ _ _).2 _ _ _ _
      rw [eg]
      exact z1
  · subst e0; subst e1; subst e2; subst e3; subst e4
    exact res_gen (by omega) h5 z1
theorem mo_remainder (hG : zd_G B) (hl : l.stackTraces = false) (w : Mw B h t R D ln T) (hR : ROk R) (hc : 64 ≤ h.1) {a b to : Int} (ha : iR a) (hb : iR b) (hto : iR to) (post : ∀ h', Mw B h' (G_remainder R a b to).1 (G_remainder R a b to).2 D ln T → h'.1 = h.1 → h'.2.1 = h.2.1 → Ke B h h' (gS B gM) → Q (.inl none) h') : zd_M l B m_Mo_remainder [.ref (zd_b0 B + 53), .int (iI a), .int (iI b), .int (iI to)] h Q := by
  refine mw_gen (as := [.ref 53, .int (iI a), .int (iI b), .int (iI to)]) (G := G_remainder R a b to) w hc (fun sz sc mo be ts us lz pr fa K Mn Mi Sc rw tp un lf pa z1 z2 z3 => ?_) post
  refine k_remainder hG hl hR z1 ha hb hto z3 (fun z => ?_) (fun z C e0 zz => ?_) (fun A C T e0 e1 e2 h0 h1 h2 h3 => ?_)
  · rw [show G_remainder R a b to = (1, R) from gen_bad z]
    exact ⟨rfl, sz, sc, mo, be, ts, us, lz, fa, K, Mn, Mi, Sc, rw, tp, un, lf, rfl, z1, z3⟩
  · subst e0
    have eg := gen_zero (R := R) (zero := (R ((C : Nat) : Int).toNat).2.1 = 0) (T := to.toNat) (ng := (R a.toNat).1) (o := (sp_rem (R a.toNat) (R ((C : Nat) : Int).toNat))) z zz
    refine ⟨rfl, sz, sc, mo, be, ts, us, lz, fa, K, Mn, Mi, Sc, rw, tp, un, lf, ?_, ?_, z3⟩
    · show _ = mS (gen _ _ _ _ _ _).1 _ _ _ _ _ _ _ _ _ _ _ _ _ _ _ _ _ _ _ _
      rw [eg]
    · show MR (gen _ _ _ _ _ _).2 _ _ _ _
      rw [eg]
      exact z1
  · subst e0; subst e1; subst e2
    exact res_gen (by omega) h3 z1
theorem mo_power (hG : zd_G B) (hl : l.stackTraces = false) (w : Mw B h t R D ln T) (hR : ROk R) (hc : 64 ≤ h.1) {a n to : Int} (ha : iR a) (hn : iR n) (hto : iR to) (post : ∀ h', Mw B h' (G_power R a n to).1 (G_power R a n to).2 D ln T → h'.1 = h.1 → h'.2.1 = h.2.1 → Ke B h h' (gS B gM) → Q (.inl none) h') : zd_M l B m_Mo_power [.ref (zd_b0 B + 53), .int (iI a), .int (iI n), .int (iI to)] h Q := by
  refine mw_gen (as := [.ref 53, .int (iI a), .int (iI n), .int (iI to)]) (G := G_power R a n to) w hc (fun sz sc mo be ts us lz pr fa K Mn Mi Sc rw tp un lf pa z1 z2 z3 => ?_) post
  refine k_power hG hl hR z1 ha hn hto z3 (fun z => ?_) (fun A N T e0 e1 e2 h0 h1 h2 => ?_)
  · rw [show G_power R a n to = (1, R) from gen_bad z]
    exact ⟨rfl, sz, sc, mo, be, ts, us, lz, fa, K, Mn, Mi, Sc, rw, tp, un, lf, rfl, z1, z3⟩
  · subst e0; subst e1; subst e2
    exact res_gen (by omega) (fun z => z) z1
theorem mo_root (hG : zd_G B) (hl : l.stackTraces = false) (w : Mw B h t R D ln T) (hR : ROk R) (hc : 64 ≤ h.1) {a to p md : Int} (ha : iR a) (hto : iR to) (hp : iR p) (hmd : iR md) (post : ∀ h', Mw B h' (G_root R a to p md).1 (G_root R a to p md).2 D ln T → h'.1 = h.1 → h'.2.1 = h.2.1 → Ke B h h' (gS B gM) → Q (.inl none) h') : zd_M l B m_Mo_root [.ref (zd_b0 B + 53), .int (iI a), .int (iI to), .int (iI p), .int (iI md)] h Q := by
  refine mw_gen (as := [.ref 53, .int (iI a), .int (iI to), .int (iI p), .int (iI md)]) (G := G_root R a to p md) w hc (fun sz sc mo be ts us lz pr fa K Mn Mi Sc rw tp un lf pa z1 z2 z3 => ?_) post
  refine k_root hG hl hR z1 ha hto hp hmd z3 (fun z => ?_) (fun z A e0 zz => ?_) (fun A T P M e0 e1 e2 e3 h0 h1 h2 h3 h4 h5 => ?_)
  · rw [show G_root R a to p md = (1, R) from gen_bad z]
    exact ⟨rfl, sz, sc, mo, be, ts, us, lz, fa, K, Mn, Mi, Sc, rw, tp, un, lf, rfl, z1, z3⟩
  · subst e0
    have eg := gen_zero (R := R) (zero := (R ((A : Nat) : Int).toNat).1 = true) (T := to.toNat) (ng := false) (o := (sp_root (R ((A : Nat) : Int).toNat) p.toNat md.toNat)) z zz
    refine ⟨rfl, sz, sc, mo, be, ts, us, lz, fa, K, Mn, Mi, Sc, rw, tp, un, lf, ?_, ?_, z3⟩
    · show _ = mS (gen _ _ _ _ _ _).1 _ _ _ _ _ _ _ _ _ _ _ _ _ _ _ _ _ _ _ _
      rw [eg]
    · show MR (gen _ _ _ _ _ _).2 _ _ _ _
      rw [eg]
      exact z1
  · subst e0; subst e1; subst e2; subst e3
    exact res_gen (by omega) (fun z => by rw [show (R A).1 = true from z] at h5; cases h5) z1
theorem mo_toScale (hG : zd_G B) (hl : l.stackTraces = false) (w : Mw B h t R D ln T) (hR : ROk R) (hc : 64 ≤ h.1) {a to s md : Int} (ha : iR a) (hto : iR to) (hs : iR s) (hmd : iR md) (post : ∀ h', Mw B h' (G_toScale R a to s md).1 (G_toScale R a to s md).2 D ln T → h'.1 = h.1 → h'.2.1 = h.2.1 → Ke B h h' (gS B gM) → Q (.inl none) h') : zd_M l B m_Mo_toScale [.ref (zd_b0 B + 53), .int (iI a), .int (iI to), .int (iI s), .int (iI md)] h Q := by
  refine mw_gen (as := [.ref 53, .int (iI a), .int (iI to), .int (iI s), .int (iI md)]) (G := G_toScale R a to s md) w hc (fun sz sc mo be ts us lz pr fa K Mn Mi Sc rw tp un lf pa z1 z2 z3 => ?_) post
  refine k_toScale hG hl hR z1 ha hto hs hmd z3 (fun z => ?_) (fun A T M e0 e1 e2 h0 h1 h2 h3 h4 => ?_)
  · rw [show G_toScale R a to s md = (1, R) from gen_bad z]
    exact ⟨rfl, sz, sc, mo, be, ts, us, lz, fa, K, Mn, Mi, Sc, rw, tp, un, lf, rfl, z1, z3⟩
  · subst e0; subst e1; subst e2
    exact res_gen (by omega) (fun z => z) z1
theorem mo_round (hG : zd_G B) (hl : l.stackTraces = false) (w : Mw B h t R D ln T) (hR : ROk R) (hc : 64 ≤ h.1) {a to p md : Int} (ha : iR a) (hto : iR to) (hp : iR p) (hmd : iR md) (post : ∀ h', Mw B h' (G_round R a to p md).1 (G_round R a to p md).2 D ln T → h'.1 = h.1 → h'.2.1 = h.2.1 → Ke B h h' (gS B gM) → Q (.inl none) h') : zd_M l B m_Mo_round [.ref (zd_b0 B + 53), .int (iI a), .int (iI to), .int (iI p), .int (iI md)] h Q := by
  refine mw_gen (as := [.ref 53, .int (iI a), .int (iI to), .int (iI p), .int (iI md)]) (G := G_round R a to p md) w hc (fun sz sc mo be ts us lz pr fa K Mn Mi Sc rw tp un lf pa z1 z2 z3 => ?_) post
  refine k_round hG hl hR z1 ha hto hp hmd z3 (fun z => ?_) (fun A T M P e0 e1 e2 e3 h0 h1 h2 h3 h4 => ?_)
  · rw [show G_round R a to p md = (1, R) from gen_bad z]
    exact ⟨rfl, sz, sc, mo, be, ts, us, lz, fa, K, Mn, Mi, Sc, rw, tp, un, lf, rfl, z1, z3⟩
  · subst e0; subst e1; subst e2; subst e3
    exact res_gen (by omega) (fun z => z) z1
theorem mo_strip (hG : zd_G B) (hl : l.stackTraces = false) (w : Mw B h t R D ln T) (hR : ROk R) (hc : 64 ≤ h.1) {a to : Int} (ha : iR a) (hto : iR to) (post : ∀ h', Mw B h' (G_strip R a to).1 (G_strip R a to).2 D ln T → h'.1 = h.1 → h'.2.1 = h.2.1 → Ke B h h' (gS B gM) → Q (.inl none) h') : zd_M l B m_Mo_strip [.ref (zd_b0 B + 53), .int (iI a), .int (iI to)] h Q := by
  refine mw_gen (as := [.ref 53, .int (iI a), .int (iI to)]) (G := G_strip R a to) w hc (fun sz sc mo be ts us lz pr fa K Mn Mi Sc rw tp un lf pa z1 z2 z3 => ?_) post
  refine k_strip hG hl hR z1 ha hto z3 (fun z => ?_) (fun A T e0 e1 h0 h1 => ?_)
  · rw [show G_strip R a to = (1, R) from gen_bad z]
    exact ⟨rfl, sz, sc, mo, be, ts, us, lz, fa, K, Mn, Mi, Sc, rw, tp, un, lf, rfl, z1, z3⟩
  · subst e0; subst e1
    exact res_gen (by omega) (fun z => z) z1
theorem mo_shift (hG : zd_G B) (hl : l.stackTraces = false) (w : Mw B h t R D ln T) (hR : ROk R) (hc : 64 ≤ h.1) {a to n : Int} (ha : iR a) (hto : iR to) (hn : iR n) (post : ∀ h', Mw B h' (G_shift R a to n).1 (G_shift R a to n).2 D ln T → h'.1 = h.1 → h'.2.1 = h.2.1 → Ke B h h' (gS B gM) → Q (.inl none) h') : zd_M l B m_Mo_shift [.ref (zd_b0 B + 53), .int (iI a), .int (iI to), .int (iI n)] h Q := by
  refine mw_gen (as := [.ref 53, .int (iI a), .int (iI to), .int (iI n)]) (G := G_shift R a to n) w hc (fun sz sc mo be ts us lz pr fa K Mn Mi Sc rw tp un lf pa z1 z2 z3 => ?_) post
  refine k_shift hG hl hR z1 ha hto hn z3 (fun z => ?_) (fun A T e0 e1 h0 h1 => ?_)
  · rw [show G_shift R a to n = (1, R) from gen_bad z]
    exact ⟨rfl, sz, sc, mo, be, ts, us, lz, fa, K, Mn, Mi, Sc, rw, tp, un, lf, rfl, z1, z3⟩
  · subst e0; subst e1
    exact res_gen (by omega) (fun z => z) z1
theorem mo_negate (hG : zd_G B) (hl : l.stackTraces = false) (w : Mw B h t R D ln T) (hR : ROk R) (hc : 64 ≤ h.1) {a to : Int} (ha : iR a) (hto : iR to) (post : ∀ h', Mw B h' (G_negate R a to).1 (G_negate R a to).2 D ln T → h'.1 = h.1 → h'.2.1 = h.2.1 → Ke B h h' (gS B gM) → Q (.inl none) h') : zd_M l B m_Mo_negate [.ref (zd_b0 B + 53), .int (iI a), .int (iI to)] h Q := by
  refine mw_gen (as := [.ref 53, .int (iI a), .int (iI to)]) (G := G_negate R a to) w hc (fun sz sc mo be ts us lz pr fa K Mn Mi Sc rw tp un lf pa z1 z2 z3 => ?_) post
  refine k_negate hG hl hR z1 ha hto z3 (fun z => ?_) (fun A T e0 e1 h0 h1 => ?_)
  · rw [show G_negate R a to = (1, R) from gen_bad z]
    exact ⟨rfl, sz, sc, mo, be, ts, us, lz, fa, K, Mn, Mi, Sc, rw, tp, un, lf, rfl, z1, z3⟩
  · subst e0; subst e1
    exact res_gen (by omega) (fun z => z) z1
end ZA

/-! the law's calls of the class -/
/-- the cells and places that a call may add -/
def Ng (h h' : zd_H) : Prop := (h'.1 = h.1 ∧ h'.2.1 = h.2.1) ∨ (h'.1 = h.1 + 1 ∧ h'.2.1 = h.2.1 + 6)
theorem Ke.xc {B : zd_B} {h h' : zd_H} {k : Nat} (ke : Ke B h h' (xs B)) : Ke B h h' (cS B k) := ⟨ke.1, fun a ha hn => ke.2 a ha (fun z => hn (xs_cS a z))⟩
section ZB
variable {l : Launch} {B : zd_B} {h : zd_H} {Q : zd_O → zd_H → Prop} {R : Nat → zr} {D : Nat → Nat} {ln : Nat} {T : List Nat} {k cap : Nat}
theorem la_put (hG : zd_G B) (hl : l.stackTraces = false) (hN : zd_N B) (w : Cw B h R D ln T k cap) (hR : ROk R) (rm : Rm h) {to x s : Int} (hto : iR to) (hx : lR x) (hs : iR s) (post : ∀ h', Cw B h' (G_put R to x s).2 D ln T k cap → Ng h h' → Ke B h h' (cS B k) → Q (.inl (some (.int (nI (G_put R to x s).1)))) h') : zd_M l B m_La_put [.ref (zd_b0 B + 0), .int (iI to), .long (lI x), .int (iI s)] h Q := by
  have hz : ∀ r v o c, zx_M l B m_De_put [.ref 0, .int (iI to), .long (lI x), .int (iI s)] (R, r, v, o, c) (Qx (G_put R to x s)) := by
    intro r v o c
    refine j_put hG hl hto hx hs (fun z => Or.inr (Or.inl ⟨rfl, gen_bad z⟩)) (fun T e0 h0 => ?_)
    subst e0
    exact cres_gen (by omega) (fun z => z)
  generalize G_put R to x s = G at *
  refine zd_go (ok_La_put hG hl hN) [] 60 ?_
  conv => whnf
  refine ⟨w.ob, ⟨rfl, Nat.le_of_ble_eq_true rfl, Nat.le_of_ble_eq_true rfl⟩, ?_⟩
  refine cw_zx (as := [.ref 0, .int (iI to), .long (lI x), .int (iI s)]) hz w rm (fun v a h' q w' c1 c2 ke => ?_) (fun c a h' q w' c1 c2 ke => ?_)
  · rcases q with ⟨q1, q2⟩ | ⟨q1, q2⟩ | ⟨q1, q2⟩
    · cases q1
      subst q2
      conv => whnf
      refine ⟨rfl, ?_, trivial⟩
      exact post h' w' (Or.inl ⟨c1, c2⟩) ke.xc
    · cases q1
    · cases q1
  · rcases q with ⟨q1, q2⟩ | ⟨q1, q2⟩ | ⟨q1, q2⟩
    · cases q1
    · cases q1
      subst q2
      conv => whnf
      refine ⟨rfl, ?_, trivial⟩
      exact post h' w' (Or.inr ⟨c1, c2⟩) ke.xc
    · cases q1
      subst q2
      conv => whnf
      refine ⟨rfl, ?_, trivial⟩
      exact post h' w' (Or.inr ⟨c1, c2⟩) ke.xc
theorem la_add (hG : zd_G B) (hl : l.stackTraces = false) (hN : zd_N B) (w : Cw B h R D ln T k cap) (hR : ROk R) (rm : Rm h) {a b to : Int} {less : Bool} (ha : iR a) (hb : iR b) (hto : iR to) (post : ∀ h', Cw B h' (G_add R a b to less).2 D ln T k cap → Ng h h' → Ke B h h' (cS B k) → Q (.inl (some (.int (nI (G_add R a b to less).1)))) h') : zd_M l B m_La_add [.ref (zd_b0 B + 0), .int (iI a), .int (iI b), .int (iI to), .int (bI less)] h Q := by
  have hz : ∀ r v o c, zx_M l B m_De_add [.ref 0, .int (iI a), .int (iI b), .int (iI to), .int (bI less)] (R, r, v, o, c) (Qx (G_add R a b to less)) := by
    intro r v o c
    refine j_add hG hl hR ha hb hto (fun z => Or.inr (Or.inl ⟨rfl, gen_bad z⟩)) (fun A C T e0 e1 e2 h0 h1 h2 => ?_)
    subst e0; subst e1; subst e2
    exact cres_gen (by omega) (fun z => z)
  generalize G_add R a b to less = G at *
  refine zd_go (ok_La_add hG hl hN) [] 60 ?_
  conv => whnf
  refine ⟨w.ob, ⟨rfl, Nat.le_of_ble_eq_true rfl, Nat.le_of_ble_eq_true rfl⟩, ?_⟩
  refine cw_zx (as := [.ref 0, .int (iI a), .int (iI b), .int (iI to), .int (bI less)]) hz w rm (fun v a h' q w' c1 c2 ke => ?_) (fun c a h' q w' c1 c2 ke => ?_)
  · rcases q with ⟨q1, q2⟩ | ⟨q1, q2⟩ | ⟨q1, q2⟩
    · cases q1
      subst q2
      conv => whnf
      refine ⟨rfl, ?_, trivial⟩
      exact post h' w' (Or.inl ⟨c1, c2⟩) ke.xc
    · cases q1
    · cases q1
  · rcases q with ⟨q1, q2⟩ | ⟨q1, q2⟩ | ⟨q1, q2⟩
    · cases q1
    · cases q1
      subst q2
      conv => whnf
      refine ⟨rfl, ?_, trivial⟩
      exact post h' w' (Or.inr ⟨c1, c2⟩) ke.xc
    · cases q1
      subst q2
      conv => whnf
      refine ⟨rfl, ?_, trivial⟩
      exact post h' w' (Or.inr ⟨c1, c2⟩) ke.xc
theorem la_multiply (hG : zd_G B) (hl : l.stackTraces = false) (hN : zd_N B) (w : Cw B h R D ln T k cap) (hR : ROk R) (rm : Rm h) {a b to : Int} (ha : iR a) (hb : iR b) (hto : iR to) (post : ∀ h', Cw B h' (G_multiply R a b to).2 D ln T k cap → Ng h h' → Ke B h h' (cS B k) → Q (.inl (some (.int (nI (G_multiply R a b to).1)))) h') : zd_M l B m_La_multiply [.ref (zd_b0 B + 0), .int (iI a), .int (iI b), .int (iI to)] h Q := by
  have hz : ∀ r v o c, zx_M l B m_De_multiply [.ref 0, .int (iI a), .int (iI b), .int (iI to)] (R, r, v, o, c) (Qx (G_multiply R a b to)) := by
    intro r v o c
    refine j_multiply hG hl hR ha hb hto (fun z => Or.inr (Or.inl ⟨rfl, gen_bad z⟩)) (fun A C T e0 e1 e2 h0 h1 h2 => ?_)
    subst e0; subst e1; subst e2
    exact cres_gen (by omega) (fun z => z)
  generalize G_multiply R a b to = G at *
  refine zd_go (ok_La_multiply hG hl hN) [] 60 ?_
  conv => whnf
  refine ⟨w.ob, ⟨rfl, Nat.le_of_ble_eq_true rfl, Nat.le_of_ble_eq_true rfl⟩, ?_⟩
  refine cw_zx (as := [.ref 0, .int (iI a), .int (iI b), .int (iI to)]) hz w rm (fun v a h' q w' c1 c2 ke => ?_) (fun c a h' q w' c1 c2 ke => ?_)
  · rcases q with ⟨q1, q2⟩ | ⟨q1, q2⟩ | ⟨q1, q2⟩
    · cases q1
      subst q2
      conv => whnf
      refine ⟨rfl, ?_, trivial⟩
      exact post h' w' (Or.inl ⟨c1, c2⟩) ke.xc
    · cases q1
    · cases q1
  · rcases q with ⟨q1, q2⟩ | ⟨q1, q2⟩ | ⟨q1, q2⟩
    · cases q1
    · cases q1
      subst q2
      conv => whnf
      refine ⟨rfl, ?_, trivial⟩
      exact post h' w' (Or.inr ⟨c1, c2⟩) ke.xc
    · cases q1
      subst q2
      conv => whnf
      refine ⟨rfl, ?_, trivial⟩
      exact post h' w' (Or.inr ⟨c1, c2⟩) ke.xc
theorem la_divide (hG : zd_G B) (hl : l.stackTraces = false) (hN : zd_N B) (w : Cw B h R D ln T k cap) (hR : ROk R) (rm : Rm h) {a b to s md : Int} (ha : iR a) (hb : iR b) (hto : iR to) (hs : iR s) (hmd : iR md) (post : ∀ h', Cw B h' (G_divide R a b to s md).2 D ln T k cap → Ng h h' → Ke B h h' (cS B k) → Q (.inl (some (.int (nI (G_divide R a b to s md).1)))) h') : zd_M l B m_La_divide [.ref (zd_b0 B + 0), .int (iI a), .int (iI b), .int (iI to), .int (iI s), .int (iI md)] h Q := by
  have hz : ∀ r v o c, zx_M l B m_De_divide [.ref 0, .int (iI a), .int (iI b), .int (iI to), .int (iI s), .int (iI md)] (R, r, v, o, c) (Qx (G_divide R a b to s md)) := by
    intro r v o c
    refine j_divide hG hl hR ha hb hto hs hmd (fun z => Or.inr (Or.inl ⟨rfl, gen_bad z⟩)) (fun z C e0 zz => by subst e0; exact Or.inr (Or.inr ⟨rfl, gen_zero z zz⟩)) (fun A C T M e0 e1 e2 e3 h0 h1 h2 h3 h4 h5 h6 => ?_)
    subst e0; subst e1; subst e2; subst e3
    exact cres_gen (by omega) h6
  generalize G_divide R a b to s md = G at *
  refine zd_go (ok_La_divide hG hl hN) [] 60 ?_
  conv => whnf
  refine ⟨w.ob, ⟨rfl, Nat.le_of_ble_eq_true rfl, Nat.le_of_ble_eq_true rfl⟩, ?_⟩
  refine cw_zx (as := [.ref 0, .int (iI a), .int (iI b), .int (iI to), .int (iI s), .int (iI md)]) hz w rm (fun v a h' q w' c1 c2 ke => ?_) (fun c a h' q w' c1 c2 ke => ?_)
  · rcases q with ⟨q1, q2⟩ | ⟨q1, q2⟩ | ⟨q1, q2⟩
    · cases q1
      subst q2
      conv => whnf
      refine ⟨rfl, ?_, trivial⟩
      exact post h' w' (Or.inl ⟨c1, c2⟩) ke.xc
    · cases q1
    · cases q1
  · rcases q with ⟨q1, q2⟩ | ⟨q1, q2⟩ | ⟨q1, q2⟩
    · cases q1
    · cases q1
      subst q2
      conv => whnf
      refine ⟨rfl, ?_, trivial⟩
      exact post h' w' (Or.inr ⟨c1, c2⟩) ke.xc
    · cases q1
      subst q2
      conv => whnf
      refine ⟨rfl, ?_, trivial⟩
      exact post h' w' (Or.inr ⟨c1, c2⟩) ke.xc
theorem la_quotient (hG : zd_G B) (hl : l.stackTraces = false) (hN : zd_N B) (w : Cw B h R D ln T k cap) (hR : ROk R) (rm : Rm h) {a b to p md : Int} (ha : iR a) (hb : iR b) (hto : iR to) (hp : iR p) (hmd : iR md) (post : ∀ h', Cw B h' (G_quotient R a b to p md).2 D ln T k cap → Ng h h' → Ke B h h' (cS B k) → Q (.inl (some (.int (nI (G_quotient R a b to p md).1)))) h') : zd_M l B m_La_quotient [.ref (zd_b0 B + 0), .int (iI a), .int (iI b), .int (iI to), .int (iI p), .int (iI md)] h Q := by
  have hz : ∀ r v o c, zx_M l B m_De_quotient [.ref 0, .int (iI a), .int (iI b), .int (iI to), .int (iI p), .int (iI md)] (R, r, v, o, c) (Qx (G_quotient R a b to p md)) := by
    intro r v o c
    refine j_quotient hG hl hR ha hb hto hp hmd (fun z => Or.inr (Or.inl ⟨rfl, gen_bad z⟩)) (fun z C e0 zz => by subst e0; exact Or.inr (Or.inr ⟨rfl, gen_zero z zz⟩)) (fun A C T P M e0 e1 e2 e3 e4 h0 h1 h2 h3 h4 h5 => ?_)
    subst e0; subst e1; subst e2; subst e3; subst e4
    exact cres_gen (by omega) h5
  generalize G_quotient R a b to p md = G at *
  refine zd_go (ok_La_quotient hG hl hN) [] 60 ?_
  conv => whnf
  refine ⟨w.ob, ⟨rfl, Nat.le_of_ble_eq_true rfl, Nat.le_of_ble_eq_true rfl⟩, ?_⟩
  refine cw_zx (as := [.ref 0, .int (iI a), .int (iI b), .int (iI to), .int (iI p), .int (iI md)]) hz w rm (fun v a h' q w' c1 c2 ke => ?_) (fun c a h' q w' c1 c2 ke => ?_)
  · rcases q with ⟨q1, q2⟩ | ⟨q1, q2⟩ | ⟨q1, q2⟩
    · cases q1
      subst q2
      conv => whnf
      refine ⟨rfl, ?_, trivial⟩
      exact post h' w' (Or.inl ⟨c1, c2⟩) ke.xc
    · cases q1
    · cases q1
  · rcases q with ⟨q1, q2⟩ | ⟨q1, q2⟩ | ⟨q1, q2⟩
    · cases q1
    · cases q1
      subst q2
      conv => whnf
      refine ⟨rfl, ?_, trivial⟩
      exact post h' w' (Or.inr ⟨c1, c2⟩) ke.xc
    · cases q1
      subst q2
      conv => whnf
      refine ⟨rfl, ?_, trivial⟩
      exact post h' w' (Or.inr ⟨c1, c2⟩) ke.xc
theorem la_remainder (hG : zd_G B) (hl : l.stackTraces = false) (hN : zd_N B) (w : Cw B h R D ln T k cap) (hR : ROk R) (rm : Rm h) {a b to : Int} (ha : iR a) (hb : iR b) (hto : iR to) (post : ∀ h', Cw B h' (G_remainder R a b to).2 D ln T k cap → Ng h h' → Ke B h h' (cS B k) → Q (.inl (some (.int (nI (G_remainder R a b to).1)))) h') : zd_M l B m_La_remainder [.ref (zd_b0 B + 0), .int (iI a), .int (iI b), .int (iI to)] h Q := by
  have hz : ∀ r v o c, zx_M l B m_De_remainder [.ref 0, .int (iI a), .int (iI b), .int (iI to)] (R, r, v, o, c) (Qx (G_remainder R a b to)) := by
    intro r v o c
    refine j_remainder hG hl hR ha hb hto (fun z => Or.inr (Or.inl ⟨rfl, gen_bad z⟩)) (fun z C e0 zz => by subst e0; exact Or.inr (Or.inr ⟨rfl, gen_zero z zz⟩)) (fun A C T e0 e1 e2 h0 h1 h2 h3 => ?_)
    subst e0; subst e1; subst e2
    exact cres_gen (by omega) h3
  generalize G_remainder R a b to = G at *
  refine zd_go (ok_La_remainder hG hl hN) [] 60 ?_
  conv => whnf
  refine ⟨w.ob, ⟨rfl, Nat.le_of_ble_eq_true rfl, Nat.le_of_ble_eq_true rfl⟩, ?_⟩
  refine cw_zx (as := [.ref 0, .int (iI a), .int (iI b), .int (iI to)]) hz w rm (fun v a h' q w' c1 c2 ke => ?_) (fun c a h' q w' c1 c2 ke => ?_)
  · rcases q with ⟨q1, q2⟩ | ⟨q1, q2⟩ | ⟨q1, q2⟩
    · cases q1
      subst q2
      conv => whnf
      refine ⟨rfl, ?_, trivial⟩
      exact post h' w' (Or.inl ⟨c1, c2⟩) ke.xc
    · cases q1
    · cases q1
  · rcases q with ⟨q1, q2⟩ | ⟨q1, q2⟩ | ⟨q1, q2⟩
    · cases q1
    · cases q1
      subst q2
      conv => whnf
      refine ⟨rfl, ?_, trivial⟩
      exact post h' w' (Or.inr ⟨c1, c2⟩) ke.xc
    · cases q1
      subst q2
      conv => whnf
      refine ⟨rfl, ?_, trivial⟩
      exact post h' w' (Or.inr ⟨c1, c2⟩) ke.xc
theorem la_power (hG : zd_G B) (hl : l.stackTraces = false) (hN : zd_N B) (w : Cw B h R D ln T k cap) (hR : ROk R) (rm : Rm h) {a n to : Int} (ha : iR a) (hn : iR n) (hto : iR to) (post : ∀ h', Cw B h' (G_power R a n to).2 D ln T k cap → Ng h h' → Ke B h h' (cS B k) → Q (.inl (some (.int (nI (G_power R a n to).1)))) h') : zd_M l B m_La_power [.ref (zd_b0 B + 0), .int (iI a), .int (iI n), .int (iI to)] h Q := by
  have hz : ∀ r v o c, zx_M l B m_De_power [.ref 0, .int (iI a), .int (iI n), .int (iI to)] (R, r, v, o, c) (Qx (G_power R a n to)) := by
    intro r v o c
    refine j_power hG hl hR ha hn hto (fun z => Or.inr (Or.inl ⟨rfl, gen_bad z⟩)) (fun A N T e0 e1 e2 h0 h1 h2 => ?_)
    subst e0; subst e1; subst e2
    exact cres_gen (by omega) (fun z => z)
  generalize G_power R a n to = G at *
  refine zd_go (ok_La_power hG hl hN) [] 60 ?_
  conv => whnf
  refine ⟨w.ob, ⟨rfl, Nat.le_of_ble_eq_true rfl, Nat.le_of_ble_eq_true rfl⟩, ?_⟩
  refine cw_zx (as := [.ref 0, .int (iI a), .int (iI n), .int (iI to)]) hz w rm (fun v a h' q w' c1 c2 ke => ?_) (fun c a h' q w' c1 c2 ke => ?_)
  · rcases q with ⟨q1, q2⟩ | ⟨q1, q2⟩ | ⟨q1, q2⟩
    · cases q1
      subst q2
      conv => whnf
      refine ⟨rfl, ?_, trivial⟩
      exact post h' w' (Or.inl ⟨c1, c2⟩) ke.xc
    · cases q1
    · cases q1
  · rcases q with ⟨q1, q2⟩ | ⟨q1, q2⟩ | ⟨q1, q2⟩
    · cases q1
    · cases q1
      subst q2
      conv => whnf
      refine ⟨rfl, ?_, trivial⟩
      exact post h' w' (Or.inr ⟨c1, c2⟩) ke.xc
    · cases q1
      subst q2
      conv => whnf
      refine ⟨rfl, ?_, trivial⟩
      exact post h' w' (Or.inr ⟨c1, c2⟩) ke.xc
theorem la_root (hG : zd_G B) (hl : l.stackTraces = false) (hN : zd_N B) (w : Cw B h R D ln T k cap) (hR : ROk R) (rm : Rm h) {a to p md : Int} (ha : iR a) (hto : iR to) (hp : iR p) (hmd : iR md) (post : ∀ h', Cw B h' (G_root R a to p md).2 D ln T k cap → Ng h h' → Ke B h h' (cS B k) → Q (.inl (some (.int (nI (G_root R a to p md).1)))) h') : zd_M l B m_La_root [.ref (zd_b0 B + 0), .int (iI a), .int (iI to), .int (iI p), .int (iI md)] h Q := by
  have hz : ∀ r v o c, zx_M l B m_De_root [.ref 0, .int (iI a), .int (iI to), .int (iI p), .int (iI md)] (R, r, v, o, c) (Qx (G_root R a to p md)) := by
    intro r v o c
    refine j_root hG hl hR ha hto hp hmd (fun z => Or.inr (Or.inl ⟨rfl, gen_bad z⟩)) (fun z A e0 zz => by subst e0; exact Or.inr (Or.inr ⟨rfl, gen_zero z zz⟩)) (fun A T P M e0 e1 e2 e3 h0 h1 h2 h3 h4 h5 => ?_)
    subst e0; subst e1; subst e2; subst e3
    exact cres_gen (by omega) (fun z => by rw [show (R A).1 = true from z] at h5; cases h5)
  generalize G_root R a to p md = G at *
  refine zd_go (ok_La_root hG hl hN) [] 60 ?_
  conv => whnf
  refine ⟨w.ob, ⟨rfl, Nat.le_of_ble_eq_true rfl, Nat.le_of_ble_eq_true rfl⟩, ?_⟩
  refine cw_zx (as := [.ref 0, .int (iI a), .int (iI to), .int (iI p), .int (iI md)]) hz w rm (fun v a h' q w' c1 c2 ke => ?_) (fun c a h' q w' c1 c2 ke => ?_)
  · rcases q with ⟨q1, q2⟩ | ⟨q1, q2⟩ | ⟨q1, q2⟩
    · cases q1
      subst q2
      conv => whnf
      refine ⟨rfl, ?_, trivial⟩
      exact post h' w' (Or.inl ⟨c1, c2⟩) ke.xc
    · cases q1
    · cases q1
  · rcases q with ⟨q1, q2⟩ | ⟨q1, q2⟩ | ⟨q1, q2⟩
    · cases q1
    · cases q1
      subst q2
      conv => whnf
      refine ⟨rfl, ?_, trivial⟩
      exact post h' w' (Or.inr ⟨c1, c2⟩) ke.xc
    · cases q1
      subst q2
      conv => whnf
      refine ⟨rfl, ?_, trivial⟩
      exact post h' w' (Or.inr ⟨c1, c2⟩) ke.xc
theorem la_toScale (hG : zd_G B) (hl : l.stackTraces = false) (hN : zd_N B) (w : Cw B h R D ln T k cap) (hR : ROk R) (rm : Rm h) {a to s md : Int} (ha : iR a) (hto : iR to) (hs : iR s) (hmd : iR md) (post : ∀ h', Cw B h' (G_toScale R a to s md).2 D ln T k cap → Ng h h' → Ke B h h' (cS B k) → Q (.inl (some (.int (nI (G_toScale R a to s md).1)))) h') : zd_M l B m_La_toScale [.ref (zd_b0 B + 0), .int (iI a), .int (iI to), .int (iI s), .int (iI md)] h Q := by
  have hz : ∀ r v o c, zx_M l B m_De_toScale [.ref 0, .int (iI a), .int (iI to), .int (iI s), .int (iI md)] (R, r, v, o, c) (Qx (G_toScale R a to s md)) := by
    intro r v o c
    refine j_toScale hG hl hR ha hto hs hmd (fun z => Or.inr (Or.inl ⟨rfl, gen_bad z⟩)) (fun A T M e0 e1 e2 h0 h1 h2 h3 h4 => ?_)
    subst e0; subst e1; subst e2
    exact cres_gen (by omega) (fun z => z)
  generalize G_toScale R a to s md = G at *
  refine zd_go (ok_La_toScale hG hl hN) [] 60 ?_
  conv => whnf
  refine ⟨w.ob, ⟨rfl, Nat.le_of_ble_eq_true rfl, Nat.le_of_ble_eq_true rfl⟩, ?_⟩
  refine cw_zx (as := [.ref 0, .int (iI a), .int (iI to), .int (iI s), .int (iI md)]) hz w rm (fun v a h' q w' c1 c2 ke => ?_) (fun c a h' q w' c1 c2 ke => ?_)
  · rcases q with ⟨q1, q2⟩ | ⟨q1, q2⟩ | ⟨q1, q2⟩
    · cases q1
      subst q2
      conv => whnf
      refine ⟨rfl, ?_, trivial⟩
      exact post h' w' (Or.inl ⟨c1, c2⟩) ke.xc
    · cases q1
    · cases q1
  · rcases q with ⟨q1, q2⟩ | ⟨q1, q2⟩ | ⟨q1, q2⟩
    · cases q1
    · cases q1
      subst q2
      conv => whnf
      refine ⟨rfl, ?_, trivial⟩
      exact post h' w' (Or.inr ⟨c1, c2⟩) ke.xc
    · cases q1
      subst q2
      conv => whnf
      refine ⟨rfl, ?_, trivial⟩
      exact post h' w' (Or.inr ⟨c1, c2⟩) ke.xc
theorem la_round (hG : zd_G B) (hl : l.stackTraces = false) (hN : zd_N B) (w : Cw B h R D ln T k cap) (hR : ROk R) (rm : Rm h) {a to p md : Int} (ha : iR a) (hto : iR to) (hp : iR p) (hmd : iR md) (post : ∀ h', Cw B h' (G_round R a to p md).2 D ln T k cap → Ng h h' → Ke B h h' (cS B k) → Q (.inl (some (.int (nI (G_round R a to p md).1)))) h') : zd_M l B m_La_round [.ref (zd_b0 B + 0), .int (iI a), .int (iI to), .int (iI p), .int (iI md)] h Q := by
  have hz : ∀ r v o c, zx_M l B m_De_round [.ref 0, .int (iI a), .int (iI to), .int (iI p), .int (iI md)] (R, r, v, o, c) (Qx (G_round R a to p md)) := by
    intro r v o c
    refine j_round hG hl hR ha hto hp hmd (fun z => Or.inr (Or.inl ⟨rfl, gen_bad z⟩)) (fun A T M P e0 e1 e2 e3 h0 h1 h2 h3 h4 => ?_)
    subst e0; subst e1; subst e2; subst e3
    exact cres_gen (by omega) (fun z => z)
  generalize G_round R a to p md = G at *
  refine zd_go (ok_La_round hG hl hN) [] 60 ?_
  conv => whnf
  refine ⟨w.ob, ⟨rfl, Nat.le_of_ble_eq_true rfl, Nat.le_of_ble_eq_true rfl⟩, ?_⟩
  refine cw_zx (as := [.ref 0, .int (iI a), .int (iI to), .int (iI p), .int (iI md)]) hz w rm (fun v a h' q w' c1 c2 ke => ?_) (fun c a h' q w' c1 c2 ke => ?_)
  · rcases q with ⟨q1, q2⟩ | ⟨q1, q2⟩ | ⟨q1, q2⟩
    · cases q1
      subst q2
      conv => whnf
      refine ⟨rfl, ?_, trivial⟩
      exact post h' w' (Or.inl ⟨c1, c2⟩) ke.xc
    · cases q1
    · cases q1
  · rcases q with ⟨q1, q2⟩ | ⟨q1, q2⟩ | ⟨q1, q2⟩
    · cases q1
    · cases q1
      subst q2
      conv => whnf
      refine ⟨rfl, ?_, trivial⟩
      exact post h' w' (Or.inr ⟨c1, c2⟩) ke.xc
    · cases q1
      subst q2
      conv => whnf
      refine ⟨rfl, ?_, trivial⟩
      exact post h' w' (Or.inr ⟨c1, c2⟩) ke.xc
theorem la_strip (hG : zd_G B) (hl : l.stackTraces = false) (hN : zd_N B) (w : Cw B h R D ln T k cap) (hR : ROk R) (rm : Rm h) {a to : Int} (ha : iR a) (hto : iR to) (post : ∀ h', Cw B h' (G_strip R a to).2 D ln T k cap → Ng h h' → Ke B h h' (cS B k) → Q (.inl (some (.int (nI (G_strip R a to).1)))) h') : zd_M l B m_La_strip [.ref (zd_b0 B + 0), .int (iI a), .int (iI to)] h Q := by
  have hz : ∀ r v o c, zx_M l B m_De_strip [.ref 0, .int (iI a), .int (iI to)] (R, r, v, o, c) (Qx (G_strip R a to)) := by
    intro r v o c
    refine j_strip hG hl hR ha hto (fun z => Or.inr (Or.inl ⟨rfl, gen_bad z⟩)) (fun A T e0 e1 h0 h1 => ?_)
    subst e0; subst e1
    exact cres_gen (by omega) (fun z => z)
  generalize G_strip R a to = G at *
  refine zd_go (ok_La_strip hG hl hN) [] 60 ?_
  conv => whnf
  refine ⟨w.ob, ⟨rfl, Nat.le_of_ble_eq_true rfl, Nat.le_of_ble_eq_true rfl⟩, ?_⟩
  refine cw_zx (as := [.ref 0, .int (iI a), .int (iI to)]) hz w rm (fun v a h' q w' c1 c2 ke => ?_) (fun c a h' q w' c1 c2 ke => ?_)
  · rcases q with ⟨q1, q2⟩ | ⟨q1, q2⟩ | ⟨q1, q2⟩
    · cases q1
      subst q2
      conv => whnf
      refine ⟨rfl, ?_, trivial⟩
      exact post h' w' (Or.inl ⟨c1, c2⟩) ke.xc
    · cases q1
    · cases q1
  · rcases q with ⟨q1, q2⟩ | ⟨q1, q2⟩ | ⟨q1, q2⟩
    · cases q1
    · cases q1
      subst q2
      conv => whnf
      refine ⟨rfl, ?_, trivial⟩
      exact post h' w' (Or.inr ⟨c1, c2⟩) ke.xc
    · cases q1
      subst q2
      conv => whnf
      refine ⟨rfl, ?_, trivial⟩
      exact post h' w' (Or.inr ⟨c1, c2⟩) ke.xc
theorem la_shift (hG : zd_G B) (hl : l.stackTraces = false) (hN : zd_N B) (w : Cw B h R D ln T k cap) (hR : ROk R) (rm : Rm h) {a to n : Int} (ha : iR a) (hto : iR to) (hn : iR n) (post : ∀ h', Cw B h' (G_shift R a to n).2 D ln T k cap → Ng h h' → Ke B h h' (cS B k) → Q (.inl (some (.int (nI (G_shift R a to n).1)))) h') : zd_M l B m_La_shift [.ref (zd_b0 B + 0), .int (iI a), .int (iI to), .int (iI n)] h Q := by
  have hz : ∀ r v o c, zx_M l B m_De_shift [.ref 0, .int (iI a), .int (iI to), .int (iI n)] (R, r, v, o, c) (Qx (G_shift R a to n)) := by
    intro r v o c
    refine j_shift hG hl hR ha hto hn (fun z => Or.inr (Or.inl ⟨rfl, gen_bad z⟩)) (fun A T e0 e1 h0 h1 => ?_)
    subst e0; subst e1
    exact cres_gen (by omega) (fun z => z)
  generalize G_shift R a to n = G at *
  refine zd_go (ok_La_shift hG hl hN) [] 60 ?_
  conv => whnf
  refine ⟨w.ob, ⟨rfl, Nat.le_of_ble_eq_true rfl, Nat.le_of_ble_eq_true rfl⟩, ?_⟩
  refine cw_zx (as := [.ref 0, .int (iI a), .int (iI to), .int (iI n)]) hz w rm (fun v a h' q w' c1 c2 ke => ?_) (fun c a h' q w' c1 c2 ke => ?_)
  · rcases q with ⟨q1, q2⟩ | ⟨q1, q2⟩ | ⟨q1, q2⟩
    · cases q1
      subst q2
      conv => whnf
      refine ⟨rfl, ?_, trivial⟩
      exact post h' w' (Or.inl ⟨c1, c2⟩) ke.xc
    · cases q1
    · cases q1
  · rcases q with ⟨q1, q2⟩ | ⟨q1, q2⟩ | ⟨q1, q2⟩
    · cases q1
    · cases q1
      subst q2
      conv => whnf
      refine ⟨rfl, ?_, trivial⟩
      exact post h' w' (Or.inr ⟨c1, c2⟩) ke.xc
    · cases q1
      subst q2
      conv => whnf
      refine ⟨rfl, ?_, trivial⟩
      exact post h' w' (Or.inr ⟨c1, c2⟩) ke.xc
theorem la_negate (hG : zd_G B) (hl : l.stackTraces = false) (hN : zd_N B) (w : Cw B h R D ln T k cap) (hR : ROk R) (rm : Rm h) {a to : Int} (ha : iR a) (hto : iR to) (post : ∀ h', Cw B h' (G_negate R a to).2 D ln T k cap → Ng h h' → Ke B h h' (cS B k) → Q (.inl (some (.int (nI (G_negate R a to).1)))) h') : zd_M l B m_La_negate [.ref (zd_b0 B + 0), .int (iI a), .int (iI to)] h Q := by
  have hz : ∀ r v o c, zx_M l B m_De_negate [.ref 0, .int (iI a), .int (iI to)] (R, r, v, o, c) (Qx (G_negate R a to)) := by
    intro r v o c
    refine j_negate hG hl hR ha hto (fun z => Or.inr (Or.inl ⟨rfl, gen_bad z⟩)) (fun A T e0 e1 h0 h1 => ?_)
    subst e0; subst e1
    exact cres_gen (by omega) (fun z => z)
  have h2 : (G_negate R a to).1 ≠ 2 := by
    unfold G_negate gen
    split
    · show (1 : Nat) ≠ 2
      decide
    · rename_i hb
      obtain ⟨b1, b2, b3, -⟩ := hR a.toNat (by omega)
      rw [if_neg (fun z => z), fin_some, if_pos ⟨b1, b2, b3⟩]
      show (0 : Nat) ≠ 2
      decide
  generalize G_negate R a to = G at *
  refine zd_go (ok_La_negate hG hl hN) [] 60 ?_
  conv => whnf
  refine ⟨w.ob, ⟨rfl, Nat.le_of_ble_eq_true rfl, Nat.le_of_ble_eq_true rfl⟩, ?_⟩
  refine cw_zx (as := [.ref 0, .int (iI a), .int (iI to)]) hz w rm (fun v a h' q w' c1 c2 ke => ?_) (fun c a h' q w' c1 c2 ke => ?_)
  · rcases q with ⟨q1, q2⟩ | ⟨q1, q2⟩ | ⟨q1, q2⟩
    · cases q1
      subst q2
      conv => whnf
      refine ⟨rfl, ?_, trivial⟩
      exact post h' w' (Or.inl ⟨c1, c2⟩) ke.xc
    · cases q1
    · cases q1
  · rcases q with ⟨q1, q2⟩ | ⟨q1, q2⟩ | ⟨q1, q2⟩
    · cases q1
    · cases q1
      subst q2
      conv => whnf
      refine ⟨rfl, ?_, trivial⟩
      exact post h' w' (Or.inr ⟨c1, c2⟩) ke.xc
    · cases q1
      subst q2
      exact absurd rfl h2
end ZB

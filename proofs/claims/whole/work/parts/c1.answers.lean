/-! the law's calls that answer -/
section ZC
variable {l : Launch} {B : zd_B} {h : zd_H} {Q : zd_O → zd_H → Prop} {R : Nat → zr} {D : Nat → Nat} {ln : Nat} {T : List Nat} {k cap t : Nat}
/-- the class's cells and the row of one answer -/
def oS (B : zd_B) (k : Nat) : Nat → Prop := fun q => cS B k q ∨ q = zd_b0 B + 64
theorem Ke.co {h h' : zd_H} (ke : Ke B h h' (cS B k)) : Ke B h h' (oS B k) := ⟨ke.1, fun a ha hn => ke.2 a ha (fun z => hn (Or.inl z))⟩
theorem cS64 {k : Nat} (h : k = 35 ∨ 64 < k) : ¬ cS B k (zd_b0 B + 64) := fun z => by rcases z with z | z <;> omega
theorem Cw.al64 {R : Nat → zr} (w : Cw B h R D ln T k cap) {c : zd_C} : Cw B (zd_set h (zd_b0 B + 64) c) R D ln T k cap := by
  have hk : k = 35 ∨ 64 < k := by have := w.2.2.2; omega
  exact (Gw.set (S := fun q => q = zd_b0 B + 64) rfl).ke.cw w (fun q hq e => by rcases hq with z | z <;> omega)
theorem la_read (hG : zd_G B) (hl : l.stackTraces = false) (hN : zd_N B) (w : Cw B h R D ln T k cap) (hR : ROk R) (hc : 34 ≤ h.1) (rm : Rm h) {to : Int} (hto : iR to) (hn : ln ≤ 1100) (hD : ∀ i, D i < 256)
    (post : ∀ h', Cw B h' (srd R D ln to).2.1 D (srd R D ln to).2.2 T k cap → Ng h h' → Ke B h h' (cS B k) → Q (.inl (some (.int (nI (srd R D ln to).1)))) h') : zd_M l B m_La_read [.ref (zd_b0 B + 0), .int (iI to)] h Q := by
  refine zd_go (ok_La_read hG hl hN) [] 60 ?_
  conv => whnf
  refine ⟨w.ob, ⟨rfl, Nat.le_of_ble_eq_true rfl, Nat.le_of_ble_eq_true rfl⟩, ?_⟩
  refine cw_read hG hl w hR hc rm hto hn hD (fun z h' w' c1 c2 ke => ?_) (fun c z h' w' c1 c2 ke => ?_)
  · have := post h' w' (Or.inl ⟨c1, c2⟩) ke
    rw [z] at this
    conv => whnf
    refine ⟨rfl, ?_, trivial⟩
    exact this
  · have := post h' w' (Or.inr ⟨c1, c2⟩) ke
    rcases z with ⟨z1, z2⟩ | ⟨z1, z2⟩ | ⟨z1, z2⟩
    · subst z1
      rw [z2] at this
      conv => whnf
      refine ⟨rfl, ?_, trivial⟩
      exact this
    · subst z1
      rw [z2] at this
      conv => whnf
      refine ⟨rfl, ?_, trivial⟩
      exact this
    · subst z1
      rw [z2] at this
      conv => whnf
      refine ⟨rfl, ?_, trivial⟩
      exact this
theorem la_compare (hG : zd_G B) (hl : l.stackTraces = false) (hN : zd_N B) (w : Cw B h R D ln T k cap) (hR : ROk R) (rm : Rm h) {f : Nat → Int64} (al : zd_Al B h (zd_b0 B + 64) 1 f) {a b : Int} (ha : iR a) (hb : iR b)
    (p0 : ¬ ((a < 0 ∨ 10 ≤ a) ∨ (b < 0 ∨ 10 ≤ b)) → ∀ h' f', f' 0 = (sp_cmp (R a.toNat) (R b.toNat)).toInt64 → Cw B h' R D ln T k cap → zd_Al B h' (zd_b0 B + 64) 1 f' → Ng h h' → Ke B h h' (oS B k) → Q (.inl (some (.int (nI 0)))) h')
    (p1 : ((a < 0 ∨ 10 ≤ a) ∨ (b < 0 ∨ 10 ≤ b)) → ∀ h', Cw B h' R D ln T k cap → zd_Al B h' (zd_b0 B + 64) 1 f → Ng h h' → Ke B h h' (oS B k) → Q (.inl (some (.int (nI 1)))) h') : zd_M l B m_La_compare [.ref (zd_b0 B + 0), .int (iI a), .int (iI b), .ref (zd_b0 B + 64)] h Q := by
  have hk : k = 35 ∨ 64 < k := by have := w.2.2.2; omega
  refine zd_go (ok_La_compare hG hl hN) [] 60 ?_
  conv => whnf
  refine ⟨w.ob, ⟨rfl, Nat.le_of_ble_eq_true rfl, Nat.le_of_ble_eq_true rfl⟩, ?_⟩
  refine cw_zx (as := [.ref 0, .int (iI a), .int (iI b)]) (Q := fun o z => z.1 = R ∧ ((o = .inr 9 ∧ ((a < 0 ∨ 10 ≤ a) ∨ (b < 0 ∨ 10 ≤ b))) ∨ (o = .inl (some (.int (sp_cmp (R a.toNat) (R b.toNat)))) ∧ ¬ ((a < 0 ∨ 10 ≤ a) ∨ (b < 0 ∨ 10 ≤ b))))) (fun r v o c => j_compare hG hl hR ha hb (fun z => ⟨rfl, Or.inl ⟨rfl, z⟩⟩) (fun A C e1 e2 h1 h2 r v o => by subst e1; subst e2; exact ⟨rfl, Or.inr ⟨rfl, by omega⟩⟩)) w rm (fun v z h' q w' c1 c2 ke => ?_) (fun c z h' q w' c1 c2 ke => ?_)
  · obtain ⟨e, q⟩ := q
    rw [e] at w'
    have al' := ke.al al (fun z => by rcases z with z | z <;> omega)
    rcases q with ⟨q1, q2⟩ | ⟨q1, q2⟩
    · cases q1
    · cases q1
      conv => whnf
      refine ⟨_, _, al', vp_in_nI (n := 0) (N := 1) (by decide) (by decide), ?_⟩
      conv => whnf
      refine ⟨rfl, ?_, trivial⟩
      exact p0 q2 _ _ (if_pos rfl) w'.al64 ⟨al'.1, zd_set_s⟩ (Or.inl ⟨c1, c2⟩) ((ke.xc (k := k)).co.tr (Gw.set (S := oS B k) (Or.inr rfl)).ke)
  · obtain ⟨e, q⟩ := q
    rw [e] at w'
    have al' := ke.al al (fun z => by rcases z with z | z <;> omega)
    rcases q with ⟨q1, q2⟩ | ⟨q1, q2⟩
    · cases q1
      conv => whnf
      refine ⟨rfl, ?_, trivial⟩
      exact p1 q2 _ w' al' (Or.inr ⟨c1, c2⟩) (ke.xc (k := k)).co
    · cases q1
theorem la_told (hG : zd_G B) (hl : l.stackTraces = false) (hN : zd_N B) (w : Cw B h R D ln T k cap) (hR : ROk R) (rm : Rm h) {f : Nat → Int64} (al : zd_Al B h (zd_b0 B + 64) 1 f) {a b : Int} (ha : iR a) (hb : iR b)
    (p0 : ¬ (a < 0 ∨ 10 ≤ a) → ¬ (b < 0 ∨ (dg (R a.toNat).2.1 : Int) ≤ b - 3) → ∀ h' f', f' 0 = (sp_told (R a.toNat) b.toNat).toInt64 → Cw B h' R D ln T k cap → zd_Al B h' (zd_b0 B + 64) 1 f' → Ng h h' → Ke B h h' (oS B k) → Q (.inl (some (.int (nI 0)))) h')
    (p1 : (a < 0 ∨ 10 ≤ a) → ∀ h', Cw B h' R D ln T k cap → zd_Al B h' (zd_b0 B + 64) 1 f → Ng h h' → Ke B h h' (oS B k) → Q (.inl (some (.int (nI 1)))) h')
    (p2 : ¬ (a < 0 ∨ 10 ≤ a) → (b < 0 ∨ (dg (R a.toNat).2.1 : Int) ≤ b - 3) → ∀ h', Cw B h' R D ln T k cap → zd_Al B h' (zd_b0 B + 64) 1 f → Ng h h' → Ke B h h' (oS B k) → Q (.inl (some (.int (nI 2)))) h') : zd_M l B m_La_told [.ref (zd_b0 B + 0), .int (iI a), .int (iI b), .ref (zd_b0 B + 64)] h Q := by
  have hk : k = 35 ∨ 64 < k := by have := w.2.2.2; omega
  refine zd_go (ok_La_told hG hl hN) [] 60 ?_
  conv => whnf
  refine ⟨w.ob, ⟨rfl, Nat.le_of_ble_eq_true rfl, Nat.le_of_ble_eq_true rfl⟩, ?_⟩
  refine cw_zx (as := [.ref 0, .int (iI a), .int (iI b)]) (Q := fun o z => z.1 = R ∧ ((o = .inr 9 ∧ (a < 0 ∨ 10 ≤ a)) ∨ (o = .inr 12 ∧ ¬ (a < 0 ∨ 10 ≤ a) ∧ (b < 0 ∨ (dg (R a.toNat).2.1 : Int) ≤ b - 3)) ∨ (o = .inl (some (.int (sp_told (R a.toNat) b.toNat))) ∧ ¬ (a < 0 ∨ 10 ≤ a) ∧ ¬ (b < 0 ∨ (dg (R a.toNat).2.1 : Int) ≤ b - 3)))) (fun r v o c => j_told hG hl hR ha hb (fun z => ⟨rfl, Or.inl ⟨rfl, z⟩⟩) (fun A e1 h1 z => by subst e1; exact ⟨rfl, Or.inr (Or.inl ⟨rfl, by omega, z⟩)⟩) (fun A W e1 e2 h1 h2 => by subst e1; subst e2; exact ⟨rfl, Or.inr (Or.inr ⟨rfl, by omega, by show ¬ ((W : Int) < 0 ∨ (dg (R A).2.1 : Int) ≤ (W : Int) - 3); omega⟩)⟩)) w rm (fun v z h' q w' c1 c2 ke => ?_) (fun c z h' q w' c1 c2 ke => ?_)
  · obtain ⟨e, q⟩ := q
    rw [e] at w'
    have al' := ke.al al (fun z => by rcases z with z | z <;> omega)
    rcases q with ⟨q1, q2⟩ | ⟨q1, q2⟩ | ⟨q1, q2, q3⟩
    · cases q1
    · cases q1
    · cases q1
      conv => whnf
      refine ⟨_, _, al', vp_in_nI (n := 0) (N := 1) (by decide) (by decide), ?_⟩
      conv => whnf
      refine ⟨rfl, ?_, trivial⟩
      exact p0 q2 q3 _ _ (if_pos rfl) w'.al64 ⟨al'.1, zd_set_s⟩ (Or.inl ⟨c1, c2⟩) ((ke.xc (k := k)).co.tr (Gw.set (S := oS B k) (Or.inr rfl)).ke)
  · obtain ⟨e, q⟩ := q
    rw [e] at w'
    have al' := ke.al al (fun z => by rcases z with z | z <;> omega)
    rcases q with ⟨q1, q2⟩ | ⟨q1, q2, q3⟩ | ⟨q1, q2⟩
    · cases q1
      conv => whnf
      refine ⟨rfl, ?_, trivial⟩
      exact p1 q2 _ w' al' (Or.inr ⟨c1, c2⟩) (ke.xc (k := k)).co
    · cases q1
      conv => whnf
      refine ⟨rfl, ?_, trivial⟩
      exact p2 q2 q3 _ w' al' (Or.inr ⟨c1, c2⟩) (ke.xc (k := k)).co
    · cases q1
/-- a longer row may have come -/
def Nk (h h' : zd_H) (k cap k' cap' : Nat) : Prop := (k' = k ∧ cap' = cap ∧ Ng h h') ∨ (k' = h.1 ∧ cap = 1100 ∧ cap' = 11020 ∧ h'.1 = h.1 + 1 ∧ h'.2.1 = h.2.1 + 11020)
theorem la_written (hG : zd_G B) (hl : l.stackTraces = false) (hN : zd_N B) (w : Cw B h R D ln T k cap) (hR : ROk R) (hc : 64 < h.1) (hkh : k < h.1) (rm : Rm h) (rm2 : cap = 1100 → h.2.1 + 11020 ≤ zd_SB) {f : Nat → Int64} (al : zd_Al B h (zd_b0 B + 64) 1 f) {a b : Int} (ha : iR a) (hb : iR b)
    (p0 : ¬ ((a < 0 ∨ 10 ≤ a) ∨ (b < 0 ∨ 3 ≤ b)) → ∀ h' f' k' cap', f' 0 = (nI (sp_txt (R a.toNat) b.toNat).length).toInt64 → Cw B h' R D ln (sp_txt (R a.toNat) b.toNat) k' cap' → zd_Al B h' (zd_b0 B + 64) 1 f' → Nk h h' k cap k' cap' → Ke B h h' (oS B k) → Q (.inl (some (.int (nI 0)))) h')
    (p1 : ((a < 0 ∨ 10 ≤ a) ∨ (b < 0 ∨ 3 ≤ b)) → ∀ h', Cw B h' R D ln T k cap → zd_Al B h' (zd_b0 B + 64) 1 f → Ng h h' → Ke B h h' (oS B k) → Q (.inl (some (.int (nI 1)))) h') : zd_M l B m_La_written [.ref (zd_b0 B + 0), .int (iI a), .int (iI b), .ref (zd_b0 B + 64)] h Q := by
  have hk : k = 35 ∨ 64 < k := by have := w.2.2.2; omega
  refine zd_go (ok_La_written hG hl hN) [] 60 ?_
  conv => whnf
  refine ⟨w.ob, ⟨rfl, Nat.le_of_ble_eq_true rfl, Nat.le_of_ble_eq_true rfl⟩, ?_⟩
  refine cw_written hG hl w hR hc hkh rm rm2 ha hb (fun A K e1 e2 h1 h2 h' k' cap' w' nk ke => ?_) (fun z h' w' c1 c2 ke => ?_)
  · subst e1
    subst e2
    have al' := ke.al al (cS64 hk)
    conv => whnf
    refine ⟨_, _, al', vp_in_nI (n := 0) (N := 1) (by decide) (by decide), ?_⟩
    conv => whnf
    refine ⟨rfl, ?_, trivial⟩
    refine p0 (by omega) _ _ k' cap' (if_pos rfl) w'.al64 ⟨al'.1, zd_set_s⟩ ?_ (ke.co.tr (Gw.set (S := oS B k) (Or.inr rfl)).ke)
    rcases nk with ⟨n1, n2, n3, n4⟩ | ⟨n1, n2, n3, n4, n5⟩
    · exact Or.inl ⟨n1, n2, Or.inl ⟨n3, n4⟩⟩
    · exact Or.inr ⟨n1, n2, n3, n4, n5⟩
  · have al' := ke.al al (cS64 hk)
    conv => whnf
    refine ⟨rfl, ?_, trivial⟩
    exact p1 z h' w' al' (Or.inr ⟨c1, c2⟩) ke.co
theorem mo_compare (hG : zd_G B) (hl : l.stackTraces = false) (w : Mw B h t R D ln T) (hR : ROk R) (hc : 64 ≤ h.1) {a b : Int} (ha : iR a) (hb : iR b)
    (p0 : ¬ ((a < 0 ∨ 10 ≤ a) ∨ (b < 0 ∨ 10 ≤ b)) → ∀ h', Mw B h' 0 R D ln T → h'.1 = h.1 → h'.2.1 = h.2.1 → Ke B h h' (gS B gM) → Q (.inl (some (.int (sp_cmp (R a.toNat) (R b.toNat))))) h')
    (p1 : ((a < 0 ∨ 10 ≤ a) ∨ (b < 0 ∨ 10 ≤ b)) → ∀ h', Mw B h' 1 R D ln T → h'.1 = h.1 → h'.2.1 = h.2.1 → Ke B h h' (gS B gM) → Q (.inl (some (.int 0))) h') : zd_M l B m_Mo_compare [.ref (zd_b0 B + 53), .int (iI a), .int (iI b)] h Q := by
  refine mw_any (as := [.ref 53, .int (iI a), .int (iI b)]) (Qz := fun v m => ∃ t', ((¬ ((a < 0 ∨ 10 ≤ a) ∨ (b < 0 ∨ 10 ≤ b)) ∧ t' = 0 ∧ v = some (.int (sp_cmp (R a.toNat) (R b.toNat)))) ∨ (((a < 0 ∨ 10 ≤ a) ∨ (b < 0 ∨ 10 ≤ b)) ∧ t' = 1 ∧ v = some (.int 0))) ∧ ∃ (sz : Nat) (sc : Int) (mo be : Bool) (ts us lz pr fa : Nat) (K Mn : Nat → Nat) (Mi : Nat → Bool) (Sc : Nat → Int) (rw tp un lf pa : Nat → Nat), m = mS t' ln sz sc mo be ts us lz pr fa D K Mn Mi Sc rw tp un lf pa ∧ MR R K Mn Mi Sc ∧ PT pa pr T ∧ ∀ i, rw i < 10) w hc (fun sz sc mo be ts us lz pr fa K Mn Mi Sc rw tp un lf pa z1 z2 z3 => k_compare hG hl hR z1 ha hb (fun z => ⟨1, Or.inr ⟨z, rfl, rfl⟩, sz, sc, mo, be, ts, us, lz, pr, fa, K, Mn, Mi, Sc, rw, tp, un, lf, pa, rfl, z1, z2, z3⟩) (fun A C e1 e2 h1 h2 => by subst e1; subst e2; exact ⟨0, Or.inl ⟨by omega, rfl, rfl⟩, sz, sc, mo, be, ts, us, lz, pr, fa, K, Mn, Mi, Sc, rw, tp, un, lf, pa, rfl, z1, z2, z3⟩)) (fun v m' h' q g c1 c2 ke => ?_)
  obtain ⟨t', e, sz, sc, mo, be, ts, us, lz, pr, fa, K, Mn, Mi, Sc, rw, tp, un, lf, pa, e2, z⟩ := q
  subst e2
  rcases e with ⟨q, e1, e2⟩ | ⟨q, e1, e2⟩
  · subst e1; subst e2
    exact p0 q h' ⟨sz, sc, mo, be, ts, us, lz, pr, fa, K, Mn, Mi, Sc, rw, tp, un, lf, pa, g, z⟩ c1 c2 ke
  · subst e1; subst e2
    exact p1 q h' ⟨sz, sc, mo, be, ts, us, lz, pr, fa, K, Mn, Mi, Sc, rw, tp, un, lf, pa, g, z⟩ c1 c2 ke
theorem mo_told (hG : zd_G B) (hl : l.stackTraces = false) (w : Mw B h t R D ln T) (hR : ROk R) (hc : 64 ≤ h.1) {a b : Int} (ha : iR a) (hb : iR b)
    (p0 : ¬ (a < 0 ∨ 10 ≤ a) → ¬ (b < 0 ∨ (dg (R a.toNat).2.1 : Int) ≤ b - 3) → ∀ h', Mw B h' 0 R D ln T → h'.1 = h.1 → h'.2.1 = h.2.1 → Ke B h h' (gS B gM) → Q (.inl (some (.int (sp_told (R a.toNat) b.toNat)))) h')
    (p1 : (a < 0 ∨ 10 ≤ a) → ∀ h', Mw B h' 1 R D ln T → h'.1 = h.1 → h'.2.1 = h.2.1 → Ke B h h' (gS B gM) → Q (.inl (some (.int 0))) h')
    (p2 : ¬ (a < 0 ∨ 10 ≤ a) → (b < 0 ∨ (dg (R a.toNat).2.1 : Int) ≤ b - 3) → ∀ h', Mw B h' 2 R D ln T → h'.1 = h.1 → h'.2.1 = h.2.1 → Ke B h h' (gS B gM) → Q (.inl (some (.int 0))) h') : zd_M l B m_Mo_told [.ref (zd_b0 B + 53), .int (iI a), .int (iI b)] h Q := by
  refine mw_any (as := [.ref 53, .int (iI a), .int (iI b)]) (Qz := fun v m => ∃ t', ((¬ (a < 0 ∨ 10 ≤ a) ∧ ¬ (b < 0 ∨ (dg (R a.toNat).2.1 : Int) ≤ b - 3) ∧ t' = 0 ∧ v = some (.int (sp_told (R a.toNat) b.toNat))) ∨ ((a < 0 ∨ 10 ≤ a) ∧ t' = 1 ∧ v = some (.int 0)) ∨ (¬ (a < 0 ∨ 10 ≤ a) ∧ (b < 0 ∨ (dg (R a.toNat).2.1 : Int) ≤ b - 3) ∧ t' = 2 ∧ v = some (.int 0))) ∧ ∃ (sz : Nat) (sc : Int) (mo be : Bool) (ts us lz pr fa : Nat) (K Mn : Nat → Nat) (Mi : Nat → Bool) (Sc : Nat → Int) (rw tp un lf pa : Nat → Nat), m = mS t' ln sz sc mo be ts us lz pr fa D K Mn Mi Sc rw tp un lf pa ∧ MR R K Mn Mi Sc ∧ PT pa pr T ∧ ∀ i, rw i < 10) w hc (fun sz sc mo be ts us lz pr fa K Mn Mi Sc rw tp un lf pa z1 z2 z3 => k_told hG hl hR z1 ha hb (fun z => ⟨1, Or.inr (Or.inl ⟨z, rfl, rfl⟩), sz, sc, mo, be, ts, us, lz, pr, fa, K, Mn, Mi, Sc, rw, tp, un, lf, pa, rfl, z1, z2, z3⟩) (fun A e1 h1 z => by subst e1; exact ⟨2, Or.inr (Or.inr ⟨by omega, z, rfl, rfl⟩), sz, sc, mo, be, ts, us, lz, pr, fa, K, Mn, Mi, Sc, rw, tp, un, lf, pa, rfl, z1, z2, z3⟩) (fun A W e1 e2 h1 h2 => by subst e1; subst e2; exact ⟨0, Or.inl ⟨by omega, by show ¬ ((W : Int) < 0 ∨ (dg (R A).2.1 : Int) ≤ (W : Int) - 3); omega, rfl, rfl⟩, sz, sc, mo, be, ts, us, lz, pr, fa, K, Mn, Mi, Sc, rw, tp, un, lf, pa, rfl, z1, z2, z3⟩)) (fun v m' h' q g c1 c2 ke => ?_)
  obtain ⟨t', e, sz, sc, mo, be, ts, us, lz, pr, fa, K, Mn, Mi, Sc, rw, tp, un, lf, pa, e2, z⟩ := q
  subst e2
  rcases e with ⟨q, q2, e1, e2⟩ | ⟨q, e1, e2⟩ | ⟨q, q2, e1, e2⟩
  · subst e1; subst e2
    exact p0 q q2 h' ⟨sz, sc, mo, be, ts, us, lz, pr, fa, K, Mn, Mi, Sc, rw, tp, un, lf, pa, g, z⟩ c1 c2 ke
  · subst e1; subst e2
    exact p1 q h' ⟨sz, sc, mo, be, ts, us, lz, pr, fa, K, Mn, Mi, Sc, rw, tp, un, lf, pa, g, z⟩ c1 c2 ke
  · subst e1; subst e2
    exact p2 q q2 h' ⟨sz, sc, mo, be, ts, us, lz, pr, fa, K, Mn, Mi, Sc, rw, tp, un, lf, pa, g, z⟩ c1 c2 ke
theorem mo_written (hG : zd_G B) (hl : l.stackTraces = false) (w : Mw B h t R D ln T) (hR : ROk R) (hc : 64 ≤ h.1) {a b : Int} (ha : iR a) (hb : iR b)
    (p0 : ¬ ((a < 0 ∨ 10 ≤ a) ∨ (b < 0 ∨ 3 ≤ b)) → (sp_txt (R a.toNat) b.toNat).length ≤ 12200 → ∀ h', Mw B h' 0 R D ln (sp_txt (R a.toNat) b.toNat) → h'.1 = h.1 → h'.2.1 = h.2.1 → Ke B h h' (gS B gM) → Q (.inl (some (.int (nI (sp_txt (R a.toNat) b.toNat).length)))) h')
    (p1 : ((a < 0 ∨ 10 ≤ a) ∨ (b < 0 ∨ 3 ≤ b)) → ∀ h', Mw B h' 1 R D ln T → h'.1 = h.1 → h'.2.1 = h.2.1 → Ke B h h' (gS B gM) → Q (.inl (some (.int 0))) h') : zd_M l B m_Mo_written [.ref (zd_b0 B + 53), .int (iI a), .int (iI b)] h Q := by
  refine mw_any (as := [.ref 53, .int (iI a), .int (iI b)]) (Qz := fun v m => ∃ t' T', ((¬ ((a < 0 ∨ 10 ≤ a) ∨ (b < 0 ∨ 3 ≤ b)) ∧ (sp_txt (R a.toNat) b.toNat).length ≤ 12200 ∧ t' = 0 ∧ T' = sp_txt (R a.toNat) b.toNat ∧ v = some (.int (nI (sp_txt (R a.toNat) b.toNat).length))) ∨ (((a < 0 ∨ 10 ≤ a) ∨ (b < 0 ∨ 3 ≤ b)) ∧ t' = 1 ∧ T' = T ∧ v = some (.int 0))) ∧ ∃ (sz : Nat) (sc : Int) (mo be : Bool) (ts us lz pr fa : Nat) (K Mn : Nat → Nat) (Mi : Nat → Bool) (Sc : Nat → Int) (rw tp un lf pa : Nat → Nat), m = mS t' ln sz sc mo be ts us lz pr fa D K Mn Mi Sc rw tp un lf pa ∧ MR R K Mn Mi Sc ∧ PT pa pr T' ∧ ∀ i, rw i < 10) w hc (fun sz sc mo be ts us lz pr fa K Mn Mi Sc rw tp un lf pa z1 z2 z3 => k_written hG hl hR z1 ha hb (fun z => ⟨1, T, Or.inr ⟨by omega, rfl, rfl, rfl⟩, sz, sc, mo, be, ts, us, lz, pr, fa, K, Mn, Mi, Sc, rw, tp, un, lf, pa, rfl, z1, z2, z3⟩) (fun A C e1 e2 h1 h2 pa' y1 y2 => by subst e1; subst e2; exact ⟨0, _, Or.inl ⟨by omega, y2, rfl, rfl, rfl⟩, sz, sc, mo, be, ts, us, lz, _, fa, K, Mn, Mi, Sc, rw, tp, un, lf, pa', rfl, z1, y1, z3⟩)) (fun v m' h' q g c1 c2 ke => ?_)
  obtain ⟨t', T', e, sz, sc, mo, be, ts, us, lz, pr, fa, K, Mn, Mi, Sc, rw, tp, un, lf, pa, e2, z⟩ := q
  subst e2
  rcases e with ⟨q, q2, e1, e2, e3⟩ | ⟨q, e1, e2, e3⟩
  · subst e1; subst e2; subst e3
    exact p0 q q2 h' ⟨sz, sc, mo, be, ts, us, lz, pr, fa, K, Mn, Mi, Sc, rw, tp, un, lf, pa, g, z⟩ c1 c2 ke
  · subst e1; subst e2; subst e3
    exact p1 q h' ⟨sz, sc, mo, be, ts, us, lz, pr, fa, K, Mn, Mi, Sc, rw, tp, un, lf, pa, g, z⟩ c1 c2 ke
end ZC

/-! the cases of the law -/
def Lw (B : zd_B) (h : zd_H) (i t : Nat) (R : Nat → zr) (D : Nat → Nat) (ln : Nat) (T : List Nat) (k cap : Nat) (f : Nat → Int64) : Prop :=
  Cw B h R D ln T k cap ∧ Mw B h t R D ln T ∧ zd_Al B h (zd_b0 B + 64) 1 f ∧ ROk R ∧ ln ≤ 1100 ∧ (∀ j, D j < 256) ∧ T.length ≤ 12200 ∧ 64 < h.1 ∧ k < h.1 ∧ ((cap = 1100 ∧ h.1 ≤ 65 + i ∧ h.2.1 ≤ 100000 + 6 * i) ∨ (cap = 11020 ∧ h.1 ≤ 66 + i ∧ h.2.1 ≤ 111020 + 6 * i))
def LW (B : zd_B) (h : zd_H) (i : Nat) : Prop := ∃ t R D ln T k cap f, Lw B h i t R D ln T k cap f
theorem gM_cS {B : zd_B} {k : Nat} (hk : k = 35 ∨ 64 < k) : ∀ q, gS B gM q → ¬ cS B k q := fun q hq z => by
  have q1 : zd_b0 B + 53 ≤ q := hq.1
  have q2 : q ≤ zd_b0 B + 53 + 10 := hq.2
  rcases z with z | z <;> omega
theorem gM_oS {B : zd_B} {k : Nat} (hk : k = 35 ∨ 64 < k) : ∀ q, gS B gM q → ¬ oS B k q := fun q hq z => by
  have q1 : zd_b0 B + 53 ≤ q := hq.1
  have q2 : q ≤ zd_b0 B + 53 + 10 := hq.2
  rcases z with z | z
  · rcases z with z | z <;> omega
  · omega
theorem cS_gM {B : zd_B} {k : Nat} (hk : k = 35 ∨ 64 < k) : ∀ q, cS B k q → ¬ gS B gM q := fun q z hq => gM_cS hk q hq z
theorem gM64 {B : zd_B} : ¬ gS B gM (zd_b0 B + 64) := fun hq => by
  have q2 : zd_b0 B + 64 ≤ zd_b0 B + 53 + 10 := hq.2
  omega
theorem srd_ROk {R : Nat → zr} (hR : ROk R) {D : Nat → Nat} {ln : Nat} {to : Int} : ROk (srd R D ln to).2.1 ∧ (ln ≤ 1100 → (srd R D ln to).2.2 ≤ 1100) := by
  unfold srd
  split
  · exact ⟨hR, fun z => z⟩
  · split
    · exact ⟨hR, fun z => z⟩
    · split
      · rename_i e
        exact ⟨zpu_ROk hR (fin_ok e), fun _ => Nat.zero_le _⟩
      · exact ⟨hR, fun z => z⟩
theorem cb_big : (70000 : Nat) ≤ zd_CB := by decide
theorem sb_big : (1000000 : Nat) ≤ zd_SB := by decide
theorem lg_cmp_self (x : Int64) : lg_cmp x x = 0 := by
  unfold lg_cmp
  rw [if_neg (show ¬ x > x from Int64.lt_irrefl), if_pos rfl]
section ZD
variable {l : Launch} {B : zd_B} {h : zd_H} {Q : zd_O → zd_H → Prop}
theorem la_putX (hG : zd_G B) (hl : l.stackTraces = false) (hN : zd_N B) {R : Nat → zr} {D : Nat → Nat} {ln : Nat} {T : List Nat} {k cap : Nat} (w : Cw B h R D ln T k cap) (hR : ROk R) (rm : Rm h) {to s : Int} {X : Int64} (hto : iR to) (hs : iR s) (post : ∀ h', Cw B h' (G_put R to X.toInt s).2 D ln T k cap → Ng h h' → Ke B h h' (cS B k) → Q (.inl (some (.int (nI (G_put R to X.toInt s).1)))) h') : zd_M l B m_La_put [.ref (zd_b0 B + 0), .int (iI to), .long X, .int (iI s)] h Q := by
  have e : lI X.toInt = X := Int64.ofInt_toInt X
  have := la_put (x := X.toInt) hG hl hN w hR rm hto ⟨by have := X.le_toInt; omega, by have := X.toInt_lt; omega⟩ hs post
  rw [e] at this
  exact this
theorem mo_putX (hG : zd_G B) (hl : l.stackTraces = false) {R : Nat → zr} {D : Nat → Nat} {ln t : Nat} {T : List Nat} (w : Mw B h t R D ln T) (hR : ROk R) (hc : 64 ≤ h.1) {to s : Int} {X : Int64} (hto : iR to) (hs : iR s) (post : ∀ h', Mw B h' (G_put R to X.toInt s).1 (G_put R to X.toInt s).2 D ln T → h'.1 = h.1 → h'.2.1 = h.2.1 → Ke B h h' (gS B gM) → Q (.inl none) h') : zd_M l B m_Mo_put [.ref (zd_b0 B + 53), .int (iI to), .long X, .int (iI s)] h Q := by
  have e : lI X.toInt = X := Int64.ofInt_toInt X
  have := mo_put (x := X.toInt) hG hl w hR hc hto ⟨by have := X.le_toInt; omega, by have := X.toInt_lt; omega⟩ hs post
  rw [e] at this
  exact this
theorem lc_0 (hG : zd_G B) (hl : l.stackTraces = false) (hN : zd_N B) {n i sA : Nat} {f : Nat → Int32} {x5 x6 : Option Value} (ol : zd_Ol B sA n f) (hn : n ≤ 3072) (hi : i + 6 ≤ n) (L : LW B h i)
    (nx : ∀ h' x5 x6, LW B h' (i + 6) → zd_W l B m_La_law 1371 [some (.ref sA), some (.ref (zd_b0 B + 0)), some (.ref (zd_b0 B + 53)), some (.ref (zd_b0 B + 64)), some (.int (nI i)), x5, x6] [] h' Q) : zd_W l B m_La_law 136 [some (.ref sA), some (.ref (zd_b0 B + 0)), some (.ref (zd_b0 B + 53)), some (.ref (zd_b0 B + 64)), some (.int (nI i)), x5, x6] [] h Q := by
  obtain ⟨t, R, D, ln, T, k, cap, f0, cw, mw, al, hR, hln, hD, hTl, h64, hkh, hrm⟩ := L
  have hk : k = 35 ∨ 64 < k := by have := cw.2.2.2; omega
  have cb := cb_big
  have sb := sb_big
  have rm : Rm h := ⟨by omega, by omega⟩
  obtain ⟨z1, r1, e1⟩ := iI_of (f (i + 1))
  obtain ⟨z2, r2, e2⟩ := iI_of (f (i + 2))
  refine zd_go (ok_La_0 hG hl) [1371] 80 ?_
  conv => whnf
  refine ⟨_, _, Or.inr ol, by rw [show nI i + 1 = nI (i + 1) from nI_add i 1]; exact vp_in_nI (by omega) (by omega), ?_⟩
  rw [show nI i + 1 = nI (i + 1) from nI_add i 1, nI_clamp (by omega), e1]
  conv => whnf
  refine ⟨_, _, Or.inr ol, by rw [show nI i + 2 = nI (i + 2) from nI_add i 2]; exact vp_in_nI (by omega) (by omega), ?_⟩
  rw [show nI i + 2 = nI (i + 2) from nI_add i 2, nI_clamp (by omega), e2]
  conv => whnf
  refine ⟨cw.ob, ⟨rfl, Nat.le_of_ble_eq_true rfl, Nat.le_of_ble_eq_true rfl⟩, ?_⟩
  refine cw_write hG hl cw (by omega) hln (fun z h1 w1 a1 b1 ke1 => ?_) (fun z h1 w1 a1 b1 ke1 => ?_)
  · have mw1 := ke1.mw mw (gM_cS hk)
    have al1 := ke1.al al (cS64 hk)
    conv => whnf
    refine ⟨_, _, Or.inr ol, by rw [show nI i + 1 = nI (i + 1) from nI_add i 1]; exact vp_in_nI (by omega) (by omega), ?_⟩
    rw [show nI i + 1 = nI (i + 1) from nI_add i 1, nI_clamp (by omega), e1]
    conv => whnf
    refine ⟨_, _, Or.inr ol, by rw [show nI i + 2 = nI (i + 2) from nI_add i 2]; exact vp_in_nI (by omega) (by omega), ?_⟩
    rw [show nI i + 2 = nI (i + 2) from nI_add i 2, nI_clamp (by omega), e2]
    conv => whnf
    refine ⟨mw1.ob, ⟨rfl, Nat.le_of_ble_eq_true rfl, Nat.le_of_ble_eq_true rfl⟩, ?_⟩
    refine mo_write hG hl mw1 (by omega) hln (fun _ h2 w2 a2 b2 ke2 => ?_) (fun z2 => by omega)
    conv => whnf
    refine ⟨fun _ => ?_, fun z => absurd rfl z⟩
    refine ⟨?_, trivial⟩
    exact nx h2 _ _ ⟨_, R, _, _, T, k, cap, f0, ke2.cw w1 (cS_gM hk), w2, ke2.al al1 gM64, hR, hln, hD, hTl, by omega, by omega, by omega⟩
  · have mw1 := ke1.mw mw (gM_cS hk)
    have al1 := ke1.al al (cS64 hk)
    conv => whnf
    refine ⟨_, _, Or.inr ol, by rw [show nI i + 1 = nI (i + 1) from nI_add i 1]; exact vp_in_nI (by omega) (by omega), ?_⟩
    rw [show nI i + 1 = nI (i + 1) from nI_add i 1, nI_clamp (by omega), e1]
    conv => whnf
    refine ⟨_, _, Or.inr ol, by rw [show nI i + 2 = nI (i + 2) from nI_add i 2]; exact vp_in_nI (by omega) (by omega), ?_⟩
    rw [show nI i + 2 = nI (i + 2) from nI_add i 2, nI_clamp (by omega), e2]
    conv => whnf
    refine ⟨mw1.ob, ⟨rfl, Nat.le_of_ble_eq_true rfl, Nat.le_of_ble_eq_true rfl⟩, ?_⟩
    refine mo_write hG hl mw1 (by omega) hln (fun z2 => by omega) (fun _ h2 w2 a2 b2 ke2 => ?_)
    conv => whnf
    refine ⟨fun _ => ?_, fun z => absurd rfl z⟩
    refine ⟨?_, trivial⟩
    exact nx h2 _ _ ⟨_, R, _, _, T, k, cap, f0, ke2.cw w1 (cS_gM hk), w2, ke2.al al1 gM64, hR, z, wr_lt hD 8, hTl, by omega, by omega, by omega⟩
theorem lc_1 (hG : zd_G B) (hl : l.stackTraces = false) (hN : zd_N B) {n i sA : Nat} {f : Nat → Int32} {x5 x6 : Option Value} (ol : zd_Ol B sA n f) (hn : n ≤ 3072) (hi : i + 6 ≤ n) (L : LW B h i)
    (nx : ∀ h' x5 x6, LW B h' (i + 6) → zd_W l B m_La_law 1371 [some (.ref sA), some (.ref (zd_b0 B + 0)), some (.ref (zd_b0 B + 53)), some (.ref (zd_b0 B + 64)), some (.int (nI i)), x5, x6] [] h' Q) : zd_W l B m_La_law 193 [some (.ref sA), some (.ref (zd_b0 B + 0)), some (.ref (zd_b0 B + 53)), some (.ref (zd_b0 B + 64)), some (.int (nI i)), x5, x6] [] h Q := by
  obtain ⟨t, R, D, ln, T, k, cap, f0, cw, mw, al, hR, hln, hD, hTl, h64, hkh, hrm⟩ := L
  have hk : k = 35 ∨ 64 < k := by have := cw.2.2.2; omega
  have cb := cb_big
  have sb := sb_big
  have rm : Rm h := ⟨by omega, by omega⟩
  refine zd_go (ok_La_1 hG hl) [1371] 80 ?_
  conv => whnf
  refine ⟨cw.ob, ⟨rfl, Nat.le_of_ble_eq_true rfl, Nat.le_of_ble_eq_true rfl⟩, ?_⟩
  refine cw_wipe hG hl cw (by omega) (fun h1 w1 a1 b1 ke1 => ?_)
  have mw1 := ke1.mw mw (gM_cS hk)
  have al1 := ke1.al al (cS64 hk)
  conv => whnf
  refine ⟨mw1.ob, ⟨rfl, Nat.le_of_ble_eq_true rfl, Nat.le_of_ble_eq_true rfl⟩, ?_⟩
  refine mo_wipe hG hl mw1 (by omega) (fun h2 w2 a2 b2 ke2 => ?_)
  conv => whnf
  refine ⟨fun _ => ?_, fun z => absurd rfl z⟩
  refine ⟨?_, trivial⟩
  exact nx h2 _ _ ⟨_, R, _, _, T, k, cap, f0, ke2.cw w1 (cS_gM hk), w2, ke2.al al1 gM64, hR, Nat.zero_le _, hD, hTl, by omega, by omega, by omega⟩
theorem lc_2 (hG : zd_G B) (hl : l.stackTraces = false) (hN : zd_N B) {n i sA : Nat} {f : Nat → Int32} {x5 x6 : Option Value} (ol : zd_Ol B sA n f) (hn : n ≤ 3072) (hi : i + 6 ≤ n) (L : LW B h i)
    (nx : ∀ h' x5 x6, LW B h' (i + 6) → zd_W l B m_La_law 1371 [some (.ref sA), some (.ref (zd_b0 B + 0)), some (.ref (zd_b0 B + 53)), some (.ref (zd_b0 B + 64)), some (.int (nI i)), x5, x6] [] h' Q) : zd_W l B m_La_law 206 [some (.ref sA), some (.ref (zd_b0 B + 0)), some (.ref (zd_b0 B + 53)), some (.ref (zd_b0 B + 64)), some (.int (nI i)), x5, x6] [] h Q := by
  obtain ⟨t, R, D, ln, T, k, cap, f0, cw, mw, al, hR, hln, hD, hTl, h64, hkh, hrm⟩ := L
  have hk : k = 35 ∨ 64 < k := by have := cw.2.2.2; omega
  have cb := cb_big
  have sb := sb_big
  have rm : Rm h := ⟨by omega, by omega⟩
  obtain ⟨z1, r1, e1⟩ := iI_of (f (i + 1))
  refine zd_go (ok_La_2 hG hl) [1371] 80 ?_
  conv => whnf
  refine ⟨_, _, Or.inr ol, by rw [show nI i + 1 = nI (i + 1) from nI_add i 1]; exact vp_in_nI (by omega) (by omega), ?_⟩
  rw [show nI i + 1 = nI (i + 1) from nI_add i 1, nI_clamp (by omega), e1]
  conv => whnf
  refine ⟨⟨rfl, Nat.le_of_ble_eq_true rfl, Nat.le_of_ble_eq_true rfl⟩, ?_⟩
  refine la_read hG hl hN cw hR (by omega) rm r1 hln hD (fun h1 w1 ng1 ke1 => ?_)
  have mw1 := ke1.mw mw (gM_cS hk)
  have al1 := ke1.al al (cS64 hk)
  unfold Ng at ng1
  conv => whnf
  refine ⟨_, _, Or.inr ol, by rw [show nI i + 1 = nI (i + 1) from nI_add i 1]; exact vp_in_nI (by omega) (by omega), ?_⟩
  rw [show nI i + 1 = nI (i + 1) from nI_add i 1, nI_clamp (by omega), e1]
  conv => whnf
  refine ⟨mw1.ob, ⟨rfl, Nat.le_of_ble_eq_true rfl, Nat.le_of_ble_eq_true rfl⟩, ?_⟩
  refine mo_read hG hl mw1 hR (by omega) r1 hln hD (fun h2 w2 a2 b2 ke2 => ?_)
  conv => whnf
  refine ⟨w2.ob, ⟨rfl, Nat.le_of_ble_eq_true rfl, Nat.le_of_ble_eq_true rfl⟩, ?_⟩
  refine mo_thrown hG hl w2 (by omega) (fun h3 w3 a3 b3 ke3 => ?_)
  conv => whnf
  refine ⟨fun _ => ?_, fun z => absurd rfl z⟩
  conv => whnf
  refine ⟨?_, trivial⟩
  exact nx h3 _ _ ⟨_, _, D, _, T, k, cap, f0, ke3.cw (ke2.cw w1 (cS_gM hk)) (cS_gM hk), w3, ke3.al (ke2.al al1 gM64) gM64, (srd_ROk hR).1, (srd_ROk hR).2 hln, hD, hTl, by omega, by omega, by omega⟩
theorem lc_3 (hG : zd_G B) (hl : l.stackTraces = false) (hN : zd_N B) {n i sA : Nat} {f : Nat → Int32} {x5 x6 : Option Value} (ol : zd_Ol B sA n f) (hn : n ≤ 3072) (hi : i + 6 ≤ n) (L : LW B h i)
    (nx : ∀ h' x5 x6, LW B h' (i + 6) → zd_W l B m_La_law 1371 [some (.ref sA), some (.ref (zd_b0 B + 0)), some (.ref (zd_b0 B + 53)), some (.ref (zd_b0 B + 64)), some (.int (nI i)), x5, x6] [] h' Q) : zd_W l B m_La_law 242 [some (.ref sA), some (.ref (zd_b0 B + 0)), some (.ref (zd_b0 B + 53)), some (.ref (zd_b0 B + 64)), some (.int (nI i)), x5, x6] [] h Q := by
  obtain ⟨t, R, D, ln, T, k, cap, f0, cw, mw, al, hR, hln, hD, hTl, h64, hkh, hrm⟩ := L
  have hk : k = 35 ∨ 64 < k := by have := cw.2.2.2; omega
  have cb := cb_big
  have sb := sb_big
  have rm : Rm h := ⟨by omega, by omega⟩
  obtain ⟨z1, r1, e1⟩ := iI_of (f (i + 1))
  obtain ⟨z2, r2, e2⟩ := iI_of (f (i + 2))
  obtain ⟨z3, r3, e3⟩ := iI_of (f (i + 3))
  obtain ⟨z4, r4, e4⟩ := iI_of (f (i + 4))
  refine zd_go (ok_La_3 hG hl) [1371] 80 ?_
  conv => whnf
  refine ⟨_, _, Or.inr ol, by rw [show nI i + 1 = nI (i + 1) from nI_add i 1]; exact vp_in_nI (by omega) (by omega), ?_⟩
  rw [show nI i + 1 = nI (i + 1) from nI_add i 1, nI_clamp (by omega), e1]
  conv => whnf
  refine ⟨_, _, Or.inr ol, by rw [show nI i + 2 = nI (i + 2) from nI_add i 2]; exact vp_in_nI (by omega) (by omega), ?_⟩
  rw [show nI i + 2 = nI (i + 2) from nI_add i 2, nI_clamp (by omega), e2]
  conv => whnf
  refine ⟨_, _, Or.inr ol, by rw [show nI i + 3 = nI (i + 3) from nI_add i 3]; exact vp_in_nI (by omega) (by omega), ?_⟩
  rw [show nI i + 3 = nI (i + 3) from nI_add i 3, nI_clamp (by omega), e3]
  conv => whnf
  refine ⟨_, _, Or.inr ol, by rw [show nI i + 4 = nI (i + 4) from nI_add i 4]; exact vp_in_nI (by omega) (by omega), ?_⟩
  rw [show nI i + 4 = nI (i + 4) from nI_add i 4, nI_clamp (by omega), e4]
  conv => whnf
  refine ⟨⟨rfl, Nat.le_of_ble_eq_true rfl, Nat.le_of_ble_eq_true rfl⟩, ?_⟩
  refine la_putX hG hl hN cw hR rm r1 r4 (fun h1 w1 ng1 ke1 => ?_)
  have mw1 := ke1.mw mw (gM_cS hk)
  have al1 := ke1.al al (cS64 hk)
  unfold Ng at ng1
  conv => whnf
  refine ⟨_, _, Or.inr ol, by rw [show nI i + 1 = nI (i + 1) from nI_add i 1]; exact vp_in_nI (by omega) (by omega), ?_⟩
  rw [show nI i + 1 = nI (i + 1) from nI_add i 1, nI_clamp (by omega), e1]
  conv => whnf
  refine ⟨_, _, Or.inr ol, by rw [show nI i + 2 = nI (i + 2) from nI_add i 2]; exact vp_in_nI (by omega) (by omega), ?_⟩
  rw [show nI i + 2 = nI (i + 2) from nI_add i 2, nI_clamp (by omega), e2]
  conv => whnf
  refine ⟨_, _, Or.inr ol, by rw [show nI i + 3 = nI (i + 3) from nI_add i 3]; exact vp_in_nI (by omega) (by omega), ?_⟩
  rw [show nI i + 3 = nI (i + 3) from nI_add i 3, nI_clamp (by omega), e3]
  conv => whnf
  refine ⟨_, _, Or.inr ol, by rw [show nI i + 4 = nI (i + 4) from nI_add i 4]; exact vp_in_nI (by omega) (by omega), ?_⟩
  rw [show nI i + 4 = nI (i + 4) from nI_add i 4, nI_clamp (by omega), e4]
  conv => whnf
  refine ⟨mw1.ob, ⟨rfl, Nat.le_of_ble_eq_true rfl, Nat.le_of_ble_eq_true rfl⟩, ?_⟩
  refine mo_putX hG hl mw1 hR (by omega) r1 r4 (fun h2 w2 a2 b2 ke2 => ?_)
  conv => whnf
  refine ⟨w2.ob, ⟨rfl, Nat.le_of_ble_eq_true rfl, Nat.le_of_ble_eq_true rfl⟩, ?_⟩
  refine mo_thrown hG hl w2 (by omega) (fun h3 w3 a3 b3 ke3 => ?_)
  conv => whnf
  refine ⟨fun _ => ?_, fun z => absurd rfl z⟩
  conv => whnf
  refine ⟨?_, trivial⟩
  exact nx h3 _ _ ⟨_, _, D, ln, T, k, cap, f0, ke3.cw (ke2.cw w1 (cS_gM hk)) (cS_gM hk), w3, ke3.al (ke2.al al1 gM64) gM64, gen_ROk hR, hln, hD, hTl, by omega, by omega, by omega⟩
theorem lc_4 (hG : zd_G B) (hl : l.stackTraces = false) (hN : zd_N B) {n i sA : Nat} {f : Nat → Int32} {x5 x6 : Option Value} (ol : zd_Ol B sA n f) (hn : n ≤ 3072) (hi : i + 6 ≤ n) (L : LW B h i)
    (nx : ∀ h' x5 x6, LW B h' (i + 6) → zd_W l B m_La_law 1371 [some (.ref sA), some (.ref (zd_b0 B + 0)), some (.ref (zd_b0 B + 53)), some (.ref (zd_b0 B + 64)), some (.int (nI i)), x5, x6] [] h' Q) : zd_W l B m_La_law 334 [some (.ref sA), some (.ref (zd_b0 B + 0)), some (.ref (zd_b0 B + 53)), some (.ref (zd_b0 B + 64)), some (.int (nI i)), x5, x6] [] h Q := by
  obtain ⟨t, R, D, ln, T, k, cap, f0, cw, mw, al, hR, hln, hD, hTl, h64, hkh, hrm⟩ := L
  have hk : k = 35 ∨ 64 < k := by have := cw.2.2.2; omega
  have cb := cb_big
  have sb := sb_big
  have rm : Rm h := ⟨by omega, by omega⟩
  obtain ⟨z1, r1, e1⟩ := iI_of (f (i + 1))
  obtain ⟨z2, r2, e2⟩ := iI_of (f (i + 2))
  obtain ⟨z3, r3, e3⟩ := iI_of (f (i + 3))
  obtain ⟨z4, r4, e4⟩ := iI_of (f (i + 4))
  by_cases hz : iI z4 = 0
  · refine zd_go (ok_La_4 hG hl) [1371] 80 ?_
    conv => whnf
    refine ⟨_, _, Or.inr ol, by rw [show nI i + 1 = nI (i + 1) from nI_add i 1]; exact vp_in_nI (by omega) (by omega), ?_⟩
    rw [show nI i + 1 = nI (i + 1) from nI_add i 1, nI_clamp (by omega), e1]
    conv => whnf
    refine ⟨_, _, Or.inr ol, by rw [show nI i + 2 = nI (i + 2) from nI_add i 2]; exact vp_in_nI (by omega) (by omega), ?_⟩
    rw [show nI i + 2 = nI (i + 2) from nI_add i 2, nI_clamp (by omega), e2]
    conv => whnf
    refine ⟨_, _, Or.inr ol, by rw [show nI i + 3 = nI (i + 3) from nI_add i 3]; exact vp_in_nI (by omega) (by omega), ?_⟩
    rw [show nI i + 3 = nI (i + 3) from nI_add i 3, nI_clamp (by omega), e3]
    conv => whnf
    refine ⟨_, _, Or.inr ol, by rw [show nI i + 4 = nI (i + 4) from nI_add i 4]; exact vp_in_nI (by omega) (by omega), ?_⟩
    rw [show nI i + 4 = nI (i + 4) from nI_add i 4, nI_clamp (by omega), e4]
    conv => whnf
    refine ⟨fun _ => ?_, fun z => absurd hz z⟩
    conv => whnf
    refine ⟨⟨rfl, Nat.le_of_ble_eq_true rfl, Nat.le_of_ble_eq_true rfl⟩, ?_⟩
    refine la_add (less := false) hG hl hN cw hR rm r1 r2 r3 (fun h1 w1 ng1 ke1 => ?_)
    have mw1 := ke1.mw mw (gM_cS hk)
    have al1 := ke1.al al (cS64 hk)
    unfold Ng at ng1
    conv => whnf
    refine ⟨_, _, Or.inr ol, by rw [show nI i + 1 = nI (i + 1) from nI_add i 1]; exact vp_in_nI (by omega) (by omega), ?_⟩
    rw [show nI i + 1 = nI (i + 1) from nI_add i 1, nI_clamp (by omega), e1]
    conv => whnf
    refine ⟨_, _, Or.inr ol, by rw [show nI i + 2 = nI (i + 2) from nI_add i 2]; exact vp_in_nI (by omega) (by omega), ?_⟩
    rw [show nI i + 2 = nI (i + 2) from nI_add i 2, nI_clamp (by omega), e2]
    conv => whnf
    refine ⟨_, _, Or.inr ol, by rw [show nI i + 3 = nI (i + 3) from nI_add i 3]; exact vp_in_nI (by omega) (by omega), ?_⟩
    rw [show nI i + 3 = nI (i + 3) from nI_add i 3, nI_clamp (by omega), e3]
    conv => whnf
    refine ⟨_, _, Or.inr ol, by rw [show nI i + 4 = nI (i + 4) from nI_add i 4]; exact vp_in_nI (by omega) (by omega), ?_⟩
    rw [show nI i + 4 = nI (i + 4) from nI_add i 4, nI_clamp (by omega), e4]
    conv => whnf
    refine ⟨fun _ => ?_, fun z => absurd hz z⟩
    conv => whnf
    refine ⟨mw1.ob, ⟨rfl, Nat.le_of_ble_eq_true rfl, Nat.le_of_ble_eq_true rfl⟩, ?_⟩
    refine mo_add (less := false) hG hl mw1 hR (by omega) r1 r2 r3 (fun h2 w2 a2 b2 ke2 => ?_)
    conv => whnf
    refine ⟨w2.ob, ⟨rfl, Nat.le_of_ble_eq_true rfl, Nat.le_of_ble_eq_true rfl⟩, ?_⟩
    refine mo_thrown hG hl w2 (by omega) (fun h3 w3 a3 b3 ke3 => ?_)
    conv => whnf
    refine ⟨fun _ => ?_, fun z => absurd rfl z⟩
    conv => whnf
    refine ⟨?_, trivial⟩
    exact nx h3 _ _ ⟨_, _, D, ln, T, k, cap, f0, ke3.cw (ke2.cw w1 (cS_gM hk)) (cS_gM hk), w3, ke3.al (ke2.al al1 gM64) gM64, gen_ROk hR, hln, hD, hTl, by omega, by omega, by omega⟩
  · refine zd_go (ok_La_4 hG hl) [1371] 80 ?_
    conv => whnf
    refine ⟨_, _, Or.inr ol, by rw [show nI i + 1 = nI (i + 1) from nI_add i 1]; exact vp_in_nI (by omega) (by omega), ?_⟩
    rw [show nI i + 1 = nI (i + 1) from nI_add i 1, nI_clamp (by omega), e1]
    conv => whnf
    refine ⟨_, _, Or.inr ol, by rw [show nI i + 2 = nI (i + 2) from nI_add i 2]; exact vp_in_nI (by omega) (by omega), ?_⟩
    rw [show nI i + 2 = nI (i + 2) from nI_add i 2, nI_clamp (by omega), e2]
    conv => whnf
    refine ⟨_, _, Or.inr ol, by rw [show nI i + 3 = nI (i + 3) from nI_add i 3]; exact vp_in_nI (by omega) (by omega), ?_⟩
    rw [show nI i + 3 = nI (i + 3) from nI_add i 3, nI_clamp (by omega), e3]
    conv => whnf
    refine ⟨_, _, Or.inr ol, by rw [show nI i + 4 = nI (i + 4) from nI_add i 4]; exact vp_in_nI (by omega) (by omega), ?_⟩
    rw [show nI i + 4 = nI (i + 4) from nI_add i 4, nI_clamp (by omega), e4]
    conv => whnf
    refine ⟨fun z => absurd z hz, fun _ => ?_⟩
    conv => whnf
    refine ⟨⟨rfl, Nat.le_of_ble_eq_true rfl, Nat.le_of_ble_eq_true rfl⟩, ?_⟩
    refine la_add (less := true) hG hl hN cw hR rm r1 r2 r3 (fun h1 w1 ng1 ke1 => ?_)
    have mw1 := ke1.mw mw (gM_cS hk)
    have al1 := ke1.al al (cS64 hk)
    unfold Ng at ng1
    conv => whnf
    refine ⟨_, _, Or.inr ol, by rw [show nI i + 1 = nI (i + 1) from nI_add i 1]; exact vp_in_nI (by omega) (by omega), ?_⟩
    rw [show nI i + 1 = nI (i + 1) from nI_add i 1, nI_clamp (by omega), e1]
    conv => whnf
    refine ⟨_, _, Or.inr ol, by rw [show nI i + 2 = nI (i + 2) from nI_add i 2]; exact vp_in_nI (by omega) (by omega), ?_⟩
    rw [show nI i + 2 = nI (i + 2) from nI_add i 2, nI_clamp (by omega), e2]
    conv => whnf
    refine ⟨_, _, Or.inr ol, by rw [show nI i + 3 = nI (i + 3) from nI_add i 3]; exact vp_in_nI (by omega) (by omega), ?_⟩
    rw [show nI i + 3 = nI (i + 3) from nI_add i 3, nI_clamp (by omega), e3]
    conv => whnf
    refine ⟨_, _, Or.inr ol, by rw [show nI i + 4 = nI (i + 4) from nI_add i 4]; exact vp_in_nI (by omega) (by omega), ?_⟩
    rw [show nI i + 4 = nI (i + 4) from nI_add i 4, nI_clamp (by omega), e4]
    conv => whnf
    refine ⟨fun z => absurd z hz, fun _ => ?_⟩
    conv => whnf
    refine ⟨mw1.ob, ⟨rfl, Nat.le_of_ble_eq_true rfl, Nat.le_of_ble_eq_true rfl⟩, ?_⟩
    refine mo_add (less := true) hG hl mw1 hR (by omega) r1 r2 r3 (fun h2 w2 a2 b2 ke2 => ?_)
    conv => whnf
    refine ⟨w2.ob, ⟨rfl, Nat.le_of_ble_eq_true rfl, Nat.le_of_ble_eq_true rfl⟩, ?_⟩
    refine mo_thrown hG hl w2 (by omega) (fun h3 w3 a3 b3 ke3 => ?_)
    conv => whnf
    refine ⟨fun _ => ?_, fun z => absurd rfl z⟩
    conv => whnf
    refine ⟨?_, trivial⟩
    exact nx h3 _ _ ⟨_, _, D, ln, T, k, cap, f0, ke3.cw (ke2.cw w1 (cS_gM hk)) (cS_gM hk), w3, ke3.al (ke2.al al1 gM64) gM64, gen_ROk hR, hln, hD, hTl, by omega, by omega, by omega⟩
theorem lc_5 (hG : zd_G B) (hl : l.stackTraces = false) (hN : zd_N B) {n i sA : Nat} {f : Nat → Int32} {x5 x6 : Option Value} (ol : zd_Ol B sA n f) (hn : n ≤ 3072) (hi : i + 6 ≤ n) (L : LW B h i)
    (nx : ∀ h' x5 x6, LW B h' (i + 6) → zd_W l B m_La_law 1371 [some (.ref sA), some (.ref (zd_b0 B + 0)), some (.ref (zd_b0 B + 53)), some (.ref (zd_b0 B + 64)), some (.int (nI i)), x5, x6] [] h' Q) : zd_W l B m_La_law 422 [some (.ref sA), some (.ref (zd_b0 B + 0)), some (.ref (zd_b0 B + 53)), some (.ref (zd_b0 B + 64)), some (.int (nI i)), x5, x6] [] h Q := by
  obtain ⟨t, R, D, ln, T, k, cap, f0, cw, mw, al, hR, hln, hD, hTl, h64, hkh, hrm⟩ := L
  have hk : k = 35 ∨ 64 < k := by have := cw.2.2.2; omega
  have cb := cb_big
  have sb := sb_big
  have rm : Rm h := ⟨by omega, by omega⟩
  obtain ⟨z1, r1, e1⟩ := iI_of (f (i + 1))
  obtain ⟨z2, r2, e2⟩ := iI_of (f (i + 2))
  obtain ⟨z3, r3, e3⟩ := iI_of (f (i + 3))
  refine zd_go (ok_La_5 hG hl) [1371] 80 ?_
  conv => whnf
  refine ⟨_, _, Or.inr ol, by rw [show nI i + 1 = nI (i + 1) from nI_add i 1]; exact vp_in_nI (by omega) (by omega), ?_⟩
  rw [show nI i + 1 = nI (i + 1) from nI_add i 1, nI_clamp (by omega), e1]
  conv => whnf
  refine ⟨_, _, Or.inr ol, by rw [show nI i + 2 = nI (i + 2) from nI_add i 2]; exact vp_in_nI (by omega) (by omega), ?_⟩
  rw [show nI i + 2 = nI (i + 2) from nI_add i 2, nI_clamp (by omega), e2]
  conv => whnf
  refine ⟨_, _, Or.inr ol, by rw [show nI i + 3 = nI (i + 3) from nI_add i 3]; exact vp_in_nI (by omega) (by omega), ?_⟩
  rw [show nI i + 3 = nI (i + 3) from nI_add i 3, nI_clamp (by omega), e3]
  conv => whnf
  refine ⟨⟨rfl, Nat.le_of_ble_eq_true rfl, Nat.le_of_ble_eq_true rfl⟩, ?_⟩
  refine la_multiply hG hl hN cw hR rm r1 r2 r3 (fun h1 w1 ng1 ke1 => ?_)
  have mw1 := ke1.mw mw (gM_cS hk)
  have al1 := ke1.al al (cS64 hk)
  unfold Ng at ng1
  conv => whnf
  refine ⟨_, _, Or.inr ol, by rw [show nI i + 1 = nI (i + 1) from nI_add i 1]; exact vp_in_nI (by omega) (by omega), ?_⟩
  rw [show nI i + 1 = nI (i + 1) from nI_add i 1, nI_clamp (by omega), e1]
  conv => whnf
  refine ⟨_, _, Or.inr ol, by rw [show nI i + 2 = nI (i + 2) from nI_add i 2]; exact vp_in_nI (by omega) (by omega), ?_⟩
  rw [show nI i + 2 = nI (i + 2) from nI_add i 2, nI_clamp (by omega), e2]
  conv => whnf
  refine ⟨_, _, Or.inr ol, by rw [show nI i + 3 = nI (i + 3) from nI_add i 3]; exact vp_in_nI (by omega) (by omega), ?_⟩
  rw [show nI i + 3 = nI (i + 3) from nI_add i 3, nI_clamp (by omega), e3]
  conv => whnf
  refine ⟨mw1.ob, ⟨rfl, Nat.le_of_ble_eq_true rfl, Nat.le_of_ble_eq_true rfl⟩, ?_⟩
  refine mo_multiply hG hl mw1 hR (by omega) r1 r2 r3 (fun h2 w2 a2 b2 ke2 => ?_)
  conv => whnf
  refine ⟨w2.ob, ⟨rfl, Nat.le_of_ble_eq_true rfl, Nat.le_of_ble_eq_true rfl⟩, ?_⟩
  refine mo_thrown hG hl w2 (by omega) (fun h3 w3 a3 b3 ke3 => ?_)
  conv => whnf
  refine ⟨fun _ => ?_, fun z => absurd rfl z⟩
  conv => whnf
  refine ⟨?_, trivial⟩
  exact nx h3 _ _ ⟨_, _, D, ln, T, k, cap, f0, ke3.cw (ke2.cw w1 (cS_gM hk)) (cS_gM hk), w3, ke3.al (ke2.al al1 gM64) gM64, gen_ROk hR, hln, hD, hTl, by omega, by omega, by omega⟩
theorem lc_6 (hG : zd_G B) (hl : l.stackTraces = false) (hN : zd_N B) {n i sA : Nat} {f : Nat → Int32} {x5 x6 : Option Value} (ol : zd_Ol B sA n f) (hn : n ≤ 3072) (hi : i + 6 ≤ n) (L : LW B h i)
    (nx : ∀ h' x5 x6, LW B h' (i + 6) → zd_W l B m_La_law 1371 [some (.ref sA), some (.ref (zd_b0 B + 0)), some (.ref (zd_b0 B + 53)), some (.ref (zd_b0 B + 64)), some (.int (nI i)), x5, x6] [] h' Q) : zd_W l B m_La_law 482 [some (.ref sA), some (.ref (zd_b0 B + 0)), some (.ref (zd_b0 B + 53)), some (.ref (zd_b0 B + 64)), some (.int (nI i)), x5, x6] [] h Q := by
  obtain ⟨t, R, D, ln, T, k, cap, f0, cw, mw, al, hR, hln, hD, hTl, h64, hkh, hrm⟩ := L
  have hk : k = 35 ∨ 64 < k := by have := cw.2.2.2; omega
  have cb := cb_big
  have sb := sb_big
  have rm : Rm h := ⟨by omega, by omega⟩
  obtain ⟨z1, r1, e1⟩ := iI_of (f (i + 1))
  obtain ⟨z2, r2, e2⟩ := iI_of (f (i + 2))
  obtain ⟨z3, r3, e3⟩ := iI_of (f (i + 3))
  obtain ⟨z4, r4, e4⟩ := iI_of (f (i + 4))
  obtain ⟨z5, r5, e5⟩ := iI_of (f (i + 5))
  refine zd_go (ok_La_6 hG hl) [1371] 80 ?_
  conv => whnf
  refine ⟨_, _, Or.inr ol, by rw [show nI i + 1 = nI (i + 1) from nI_add i 1]; exact vp_in_nI (by omega) (by omega), ?_⟩
  rw [show nI i + 1 = nI (i + 1) from nI_add i 1, nI_clamp (by omega), e1]
  conv => whnf
  refine ⟨_, _, Or.inr ol, by rw [show nI i + 2 = nI (i + 2) from nI_add i 2]; exact vp_in_nI (by omega) (by omega), ?_⟩
  rw [show nI i + 2 = nI (i + 2) from nI_add i 2, nI_clamp (by omega), e2]
  conv => whnf
  refine ⟨_, _, Or.inr ol, by rw [show nI i + 3 = nI (i + 3) from nI_add i 3]; exact vp_in_nI (by omega) (by omega), ?_⟩
  rw [show nI i + 3 = nI (i + 3) from nI_add i 3, nI_clamp (by omega), e3]
  conv => whnf
  refine ⟨_, _, Or.inr ol, by rw [show nI i + 4 = nI (i + 4) from nI_add i 4]; exact vp_in_nI (by omega) (by omega), ?_⟩
  rw [show nI i + 4 = nI (i + 4) from nI_add i 4, nI_clamp (by omega), e4]
  conv => whnf
  refine ⟨_, _, Or.inr ol, by rw [show nI i + 5 = nI (i + 5) from nI_add i 5]; exact vp_in_nI (by omega) (by omega), ?_⟩
  rw [show nI i + 5 = nI (i + 5) from nI_add i 5, nI_clamp (by omega), e5]
  conv => whnf
  refine ⟨⟨rfl, Nat.le_of_ble_eq_true rfl, Nat.le_of_ble_eq_true rfl⟩, ?_⟩
  refine la_divide hG hl hN cw hR rm r1 r2 r3 r4 r5 (fun h1 w1 ng1 ke1 => ?_)
  have mw1 := ke1.mw mw (gM_cS hk)
  have al1 := ke1.al al (cS64 hk)
  unfold Ng at ng1
  conv => whnf
  refine ⟨_, _, Or.inr ol, by rw [show nI i + 1 = nI (i + 1) from nI_add i 1]; exact vp_in_nI (by omega) (by omega), ?_⟩
  rw [show nI i + 1 = nI (i + 1) from nI_add i 1, nI_clamp (by omega), e1]
  conv => whnf
  refine ⟨_, _, Or.inr ol, by rw [show nI i + 2 = nI (i + 2) from nI_add i 2]; exact vp_in_nI (by omega) (by omega), ?_⟩
  rw [show nI i + 2 = nI (i + 2) from nI_add i 2, nI_clamp (by omega), e2]
  conv => whnf
  refine ⟨_, _, Or.inr ol, by rw [show nI i + 3 = nI (i + 3) from nI_add i 3]; exact vp_in_nI (by omega) (by omega), ?_⟩
  rw [show nI i + 3 = nI (i + 3) from nI_add i 3, nI_clamp (by omega), e3]
  conv => whnf
  refine ⟨_, _, Or.inr ol, by rw [show nI i + 4 = nI (i + 4) from nI_add i 4]; exact vp_in_nI (by omega) (by omega), ?_⟩
  rw [show nI i + 4 = nI (i + 4) from nI_add i 4, nI_clamp (by omega), e4]
  conv => whnf
  refine ⟨_, _, Or.inr ol, by rw [show nI i + 5 = nI (i + 5) from nI_add i 5]; exact vp_in_nI (by omega) (by omega), ?_⟩
  rw [show nI i + 5 = nI (i + 5) from nI_add i 5, nI_clamp (by omega), e5]
  conv => whnf
  refine ⟨mw1.ob, ⟨rfl, Nat.le_of_ble_eq_true rfl, Nat.le_of_ble_eq_true rfl⟩, ?_⟩
  refine mo_divide hG hl mw1 hR (by omega) r1 r2 r3 r4 r5 (fun h2 w2 a2 b2 ke2 => ?_)
  conv => whnf
  refine ⟨w2.ob, ⟨rfl, Nat.le_of_ble_eq_true rfl, Nat.le_of_ble_eq_true rfl⟩, ?_⟩
  refine mo_thrown hG hl w2 (by omega) (fun h3 w3 a3 b3 ke3 => ?_)
  conv => whnf
  refine ⟨fun _ => ?_, fun z => absurd rfl z⟩
  conv => whnf
  refine ⟨?_, trivial⟩
  exact nx h3 _ _ ⟨_, _, D, ln, T, k, cap, f0, ke3.cw (ke2.cw w1 (cS_gM hk)) (cS_gM hk), w3, ke3.al (ke2.al al1 gM64) gM64, gen_ROk hR, hln, hD, hTl, by omega, by omega, by omega⟩
theorem lc_7 (hG : zd_G B) (hl : l.stackTraces = false) (hN : zd_N B) {n i sA : Nat} {f : Nat → Int32} {x5 x6 : Option Value} (ol : zd_Ol B sA n f) (hn : n ≤ 3072) (hi : i + 6 ≤ n) (L : LW B h i)
    (nx : ∀ h' x5 x6, LW B h' (i + 6) → zd_W l B m_La_law 1371 [some (.ref sA), some (.ref (zd_b0 B + 0)), some (.ref (zd_b0 B + 53)), some (.ref (zd_b0 B + 64)), some (.int (nI i)), x5, x6] [] h' Q) : zd_W l B m_La_law 566 [some (.ref sA), some (.ref (zd_b0 B + 0)), some (.ref (zd_b0 B + 53)), some (.ref (zd_b0 B + 64)), some (.int (nI i)), x5, x6] [] h Q := by
  obtain ⟨t, R, D, ln, T, k, cap, f0, cw, mw, al, hR, hln, hD, hTl, h64, hkh, hrm⟩ := L
  have hk : k = 35 ∨ 64 < k := by have := cw.2.2.2; omega
  have cb := cb_big
  have sb := sb_big
  have rm : Rm h := ⟨by omega, by omega⟩
  obtain ⟨z1, r1, e1⟩ := iI_of (f (i + 1))
  obtain ⟨z2, r2, e2⟩ := iI_of (f (i + 2))
  obtain ⟨z3, r3, e3⟩ := iI_of (f (i + 3))
  obtain ⟨z4, r4, e4⟩ := iI_of (f (i + 4))
  obtain ⟨z5, r5, e5⟩ := iI_of (f (i + 5))
  refine zd_go (ok_La_7 hG hl) [1371] 80 ?_
  conv => whnf
  refine ⟨_, _, Or.inr ol, by rw [show nI i + 1 = nI (i + 1) from nI_add i 1]; exact vp_in_nI (by omega) (by omega), ?_⟩
  rw [show nI i + 1 = nI (i + 1) from nI_add i 1, nI_clamp (by omega), e1]
  conv => whnf
  refine ⟨_, _, Or.inr ol, by rw [show nI i + 2 = nI (i + 2) from nI_add i 2]; exact vp_in_nI (by omega) (by omega), ?_⟩
  rw [show nI i + 2 = nI (i + 2) from nI_add i 2, nI_clamp (by omega), e2]
  conv => whnf
  refine ⟨_, _, Or.inr ol, by rw [show nI i + 3 = nI (i + 3) from nI_add i 3]; exact vp_in_nI (by omega) (by omega), ?_⟩
  rw [show nI i + 3 = nI (i + 3) from nI_add i 3, nI_clamp (by omega), e3]
  conv => whnf
  refine ⟨_, _, Or.inr ol, by rw [show nI i + 4 = nI (i + 4) from nI_add i 4]; exact vp_in_nI (by omega) (by omega), ?_⟩
  rw [show nI i + 4 = nI (i + 4) from nI_add i 4, nI_clamp (by omega), e4]
  conv => whnf
  refine ⟨_, _, Or.inr ol, by rw [show nI i + 5 = nI (i + 5) from nI_add i 5]; exact vp_in_nI (by omega) (by omega), ?_⟩
  rw [show nI i + 5 = nI (i + 5) from nI_add i 5, nI_clamp (by omega), e5]
  conv => whnf
  refine ⟨⟨rfl, Nat.le_of_ble_eq_true rfl, Nat.le_of_ble_eq_true rfl⟩, ?_⟩
  refine la_quotient hG hl hN cw hR rm r1 r2 r3 r4 r5 (fun h1 w1 ng1 ke1 => ?_)
  have mw1 := ke1.mw mw (gM_cS hk)
  have al1 := ke1.al al (cS64 hk)
  unfold Ng at ng1
  conv => whnf
  refine ⟨_, _, Or.inr ol, by rw [show nI i + 1 = nI (i + 1) from nI_add i 1]; exact vp_in_nI (by omega) (by omega), ?_⟩
  rw [show nI i + 1 = nI (i + 1) from nI_add i 1, nI_clamp (by omega), e1]
  conv => whnf
  refine ⟨_, _, Or.inr ol, by rw [show nI i + 2 = nI (i + 2) from nI_add i 2]; exact vp_in_nI (by omega) (by omega), ?_⟩
  rw [show nI i + 2 = nI (i + 2) from nI_add i 2, nI_clamp (by omega), e2]
  conv => whnf
  refine ⟨_, _, Or.inr ol, by rw [show nI i + 3 = nI (i + 3) from nI_add i 3]; exact vp_in_nI (by omega) (by omega), ?_⟩
  rw [show nI i + 3 = nI (i + 3) from nI_add i 3, nI_clamp (by omega), e3]
  conv => whnf
  refine ⟨_, _, Or.inr ol, by rw [show nI i + 4 = nI (i + 4) from nI_add i 4]; exact vp_in_nI (by omega) (by omega), ?_⟩
  rw [show nI i + 4 = nI (i + 4) from nI_add i 4, nI_clamp (by omega), e4]
  conv => whnf
  refine ⟨_, _, Or.inr ol, by rw [show nI i + 5 = nI (i + 5) from nI_add i 5]; exact vp_in_nI (by omega) (by omega), ?_⟩
  rw [show nI i + 5 = nI (i + 5) from nI_add i 5, nI_clamp (by omega), e5]
  conv => whnf
  refine ⟨mw1.ob, ⟨rfl, Nat.le_of_ble_eq_true rfl, Nat.le_of_ble_eq_true rfl⟩, ?_⟩
  refine mo_quotient hG hl mw1 hR (by omega) r1 r2 r3 r4 r5 (fun h2 w2 a2 b2 ke2 => ?_)
  conv => whnf
  refine ⟨w2.ob, ⟨rfl, Nat.le_of_ble_eq_true rfl, Nat.le_of_ble_eq_true rfl⟩, ?_⟩
  refine mo_thrown hG hl w2 (by omega) (fun h3 w3 a3 b3 ke3 => ?_)
  conv => whnf
  refine ⟨fun _ => ?_, fun z => absurd rfl z⟩
  conv => whnf
  refine ⟨?_, trivial⟩
  exact nx h3 _ _ ⟨_, _, D, ln, T, k, cap, f0, ke3.cw (ke2.cw w1 (cS_gM hk)) (cS_gM hk), w3, ke3.al (ke2.al al1 gM64) gM64, gen_ROk hR, hln, hD, hTl, by omega, by omega, by omega⟩
theorem lc_8 (hG : zd_G B) (hl : l.stackTraces = false) (hN : zd_N B) {n i sA : Nat} {f : Nat → Int32} {x5 x6 : Option Value} (ol : zd_Ol B sA n f) (hn : n ≤ 3072) (hi : i + 6 ≤ n) (L : LW B h i)
    (nx : ∀ h' x5 x6, LW B h' (i + 6) → zd_W l B m_La_law 1371 [some (.ref sA), some (.ref (zd_b0 B + 0)), some (.ref (zd_b0 B + 53)), some (.ref (zd_b0 B + 64)), some (.int (nI i)), x5, x6] [] h' Q) : zd_W l B m_La_law 650 [some (.ref sA), some (.ref (zd_b0 B + 0)), some (.ref (zd_b0 B + 53)), some (.ref (zd_b0 B + 64)), some (.int (nI i)), x5, x6] [] h Q := by
  obtain ⟨t, R, D, ln, T, k, cap, f0, cw, mw, al, hR, hln, hD, hTl, h64, hkh, hrm⟩ := L
  have hk : k = 35 ∨ 64 < k := by have := cw.2.2.2; omega
  have cb := cb_big
  have sb := sb_big
  have rm : Rm h := ⟨by omega, by omega⟩
  obtain ⟨z1, r1, e1⟩ := iI_of (f (i + 1))
  obtain ⟨z2, r2, e2⟩ := iI_of (f (i + 2))
  obtain ⟨z3, r3, e3⟩ := iI_of (f (i + 3))
  refine zd_go (ok_La_8 hG hl) [1371] 80 ?_
  conv => whnf
  refine ⟨_, _, Or.inr ol, by rw [show nI i + 1 = nI (i + 1) from nI_add i 1]; exact vp_in_nI (by omega) (by omega), ?_⟩
  rw [show nI i + 1 = nI (i + 1) from nI_add i 1, nI_clamp (by omega), e1]
  conv => whnf
  refine ⟨_, _, Or.inr ol, by rw [show nI i + 2 = nI (i + 2) from nI_add i 2]; exact vp_in_nI (by omega) (by omega), ?_⟩
  rw [show nI i + 2 = nI (i + 2) from nI_add i 2, nI_clamp (by omega), e2]
  conv => whnf
  refine ⟨_, _, Or.inr ol, by rw [show nI i + 3 = nI (i + 3) from nI_add i 3]; exact vp_in_nI (by omega) (by omega), ?_⟩
  rw [show nI i + 3 = nI (i + 3) from nI_add i 3, nI_clamp (by omega), e3]
  conv => whnf
  refine ⟨⟨rfl, Nat.le_of_ble_eq_true rfl, Nat.le_of_ble_eq_true rfl⟩, ?_⟩
  refine la_remainder hG hl hN cw hR rm r1 r2 r3 (fun h1 w1 ng1 ke1 => ?_)
  have mw1 := ke1.mw mw (gM_cS hk)
  have al1 := ke1.al al (cS64 hk)
  unfold Ng at ng1
  conv => whnf
  refine ⟨_, _, Or.inr ol, by rw [show nI i + 1 = nI (i + 1) from nI_add i 1]; exact vp_in_nI (by omega) (by omega), ?_⟩
  rw [show nI i + 1 = nI (i + 1) from nI_add i 1, nI_clamp (by omega), e1]
  conv => whnf
  refine ⟨_, _, Or.inr ol, by rw [show nI i + 2 = nI (i + 2) from nI_add i 2]; exact vp_in_nI (by omega) (by omega), ?_⟩
  rw [show nI i + 2 = nI (i + 2) from nI_add i 2, nI_clamp (by omega), e2]
  conv => whnf
  refine ⟨_, _, Or.inr ol, by rw [show nI i + 3 = nI (i + 3) from nI_add i 3]; exact vp_in_nI (by omega) (by omega), ?_⟩
  rw [show nI i + 3 = nI (i + 3) from nI_add i 3, nI_clamp (by omega), e3]
  conv => whnf
  refine ⟨mw1.ob, ⟨rfl, Nat.le_of_ble_eq_true rfl, Nat.le_of_ble_eq_true rfl⟩, ?_⟩
  refine mo_remainder hG hl mw1 hR (by omega) r1 r2 r3 (fun h2 w2 a2 b2 ke2 => ?_)
  conv => whnf
  refine ⟨w2.ob, ⟨rfl, Nat.le_of_ble_eq_true rfl, Nat.le_of_ble_eq_true rfl⟩, ?_⟩
  refine mo_thrown hG hl w2 (by omega) (fun h3 w3 a3 b3 ke3 => ?_)
  conv => whnf
  refine ⟨fun _ => ?_, fun z => absurd rfl z⟩
  conv => whnf
  refine ⟨?_, trivial⟩
  exact nx h3 _ _ ⟨_, _, D, ln, T, k, cap, f0, ke3.cw (ke2.cw w1 (cS_gM hk)) (cS_gM hk), w3, ke3.al (ke2.al al1 gM64) gM64, gen_ROk hR, hln, hD, hTl, by omega, by omega, by omega⟩
theorem lc_9 (hG : zd_G B) (hl : l.stackTraces = false) (hN : zd_N B) {n i sA : Nat} {f : Nat → Int32} {x5 x6 : Option Value} (ol : zd_Ol B sA n f) (hn : n ≤ 3072) (hi : i + 6 ≤ n) (L : LW B h i)
    (nx : ∀ h' x5 x6, LW B h' (i + 6) → zd_W l B m_La_law 1371 [some (.ref sA), some (.ref (zd_b0 B + 0)), some (.ref (zd_b0 B + 53)), some (.ref (zd_b0 B + 64)), some (.int (nI i)), x5, x6] [] h' Q) : zd_W l B m_La_law 710 [some (.ref sA), some (.ref (zd_b0 B + 0)), some (.ref (zd_b0 B + 53)), some (.ref (zd_b0 B + 64)), some (.int (nI i)), x5, x6] [] h Q := by
  obtain ⟨t, R, D, ln, T, k, cap, f0, cw, mw, al, hR, hln, hD, hTl, h64, hkh, hrm⟩ := L
  have hk : k = 35 ∨ 64 < k := by have := cw.2.2.2; omega
  have cb := cb_big
  have sb := sb_big
  have rm : Rm h := ⟨by omega, by omega⟩
  obtain ⟨z1, r1, e1⟩ := iI_of (f (i + 1))
  obtain ⟨z2, r2, e2⟩ := iI_of (f (i + 2))
  obtain ⟨z3, r3, e3⟩ := iI_of (f (i + 3))
  refine zd_go (ok_La_9 hG hl) [1371] 80 ?_
  conv => whnf
  refine ⟨_, _, Or.inr ol, by rw [show nI i + 1 = nI (i + 1) from nI_add i 1]; exact vp_in_nI (by omega) (by omega), ?_⟩
  rw [show nI i + 1 = nI (i + 1) from nI_add i 1, nI_clamp (by omega), e1]
  conv => whnf
  refine ⟨_, _, Or.inr ol, by rw [show nI i + 2 = nI (i + 2) from nI_add i 2]; exact vp_in_nI (by omega) (by omega), ?_⟩
  rw [show nI i + 2 = nI (i + 2) from nI_add i 2, nI_clamp (by omega), e2]
  conv => whnf
  refine ⟨_, _, Or.inr ol, by rw [show nI i + 3 = nI (i + 3) from nI_add i 3]; exact vp_in_nI (by omega) (by omega), ?_⟩
  rw [show nI i + 3 = nI (i + 3) from nI_add i 3, nI_clamp (by omega), e3]
  conv => whnf
  refine ⟨⟨rfl, Nat.le_of_ble_eq_true rfl, Nat.le_of_ble_eq_true rfl⟩, ?_⟩
  refine la_power hG hl hN cw hR rm r1 r2 r3 (fun h1 w1 ng1 ke1 => ?_)
  have mw1 := ke1.mw mw (gM_cS hk)
  have al1 := ke1.al al (cS64 hk)
  unfold Ng at ng1
  conv => whnf
  refine ⟨_, _, Or.inr ol, by rw [show nI i + 1 = nI (i + 1) from nI_add i 1]; exact vp_in_nI (by omega) (by omega), ?_⟩
  rw [show nI i + 1 = nI (i + 1) from nI_add i 1, nI_clamp (by omega), e1]
  conv => whnf
  refine ⟨_, _, Or.inr ol, by rw [show nI i + 2 = nI (i + 2) from nI_add i 2]; exact vp_in_nI (by omega) (by omega), ?_⟩
  rw [show nI i + 2 = nI (i + 2) from nI_add i 2, nI_clamp (by omega), e2]
  conv => whnf
  refine ⟨_, _, Or.inr ol, by rw [show nI i + 3 = nI (i + 3) from nI_add i 3]; exact vp_in_nI (by omega) (by omega), ?_⟩
  rw [show nI i + 3 = nI (i + 3) from nI_add i 3, nI_clamp (by omega), e3]
  conv => whnf
  refine ⟨mw1.ob, ⟨rfl, Nat.le_of_ble_eq_true rfl, Nat.le_of_ble_eq_true rfl⟩, ?_⟩
  refine mo_power hG hl mw1 hR (by omega) r1 r2 r3 (fun h2 w2 a2 b2 ke2 => ?_)
  conv => whnf
  refine ⟨w2.ob, ⟨rfl, Nat.le_of_ble_eq_true rfl, Nat.le_of_ble_eq_true rfl⟩, ?_⟩
  refine mo_thrown hG hl w2 (by omega) (fun h3 w3 a3 b3 ke3 => ?_)
  conv => whnf
  refine ⟨fun _ => ?_, fun z => absurd rfl z⟩
  conv => whnf
  refine ⟨?_, trivial⟩
  exact nx h3 _ _ ⟨_, _, D, ln, T, k, cap, f0, ke3.cw (ke2.cw w1 (cS_gM hk)) (cS_gM hk), w3, ke3.al (ke2.al al1 gM64) gM64, gen_ROk hR, hln, hD, hTl, by omega, by omega, by omega⟩
theorem lc_10 (hG : zd_G B) (hl : l.stackTraces = false) (hN : zd_N B) {n i sA : Nat} {f : Nat → Int32} {x5 x6 : Option Value} (ol : zd_Ol B sA n f) (hn : n ≤ 3072) (hi : i + 6 ≤ n) (L : LW B h i)
    (nx : ∀ h' x5 x6, LW B h' (i + 6) → zd_W l B m_La_law 1371 [some (.ref sA), some (.ref (zd_b0 B + 0)), some (.ref (zd_b0 B + 53)), some (.ref (zd_b0 B + 64)), some (.int (nI i)), x5, x6] [] h' Q) : zd_W l B m_La_law 770 [some (.ref sA), some (.ref (zd_b0 B + 0)), some (.ref (zd_b0 B + 53)), some (.ref (zd_b0 B + 64)), some (.int (nI i)), x5, x6] [] h Q := by
  obtain ⟨t, R, D, ln, T, k, cap, f0, cw, mw, al, hR, hln, hD, hTl, h64, hkh, hrm⟩ := L
  have hk : k = 35 ∨ 64 < k := by have := cw.2.2.2; omega
  have cb := cb_big
  have sb := sb_big
  have rm : Rm h := ⟨by omega, by omega⟩
  obtain ⟨z1, r1, e1⟩ := iI_of (f (i + 1))
  obtain ⟨z2, r2, e2⟩ := iI_of (f (i + 2))
  obtain ⟨z3, r3, e3⟩ := iI_of (f (i + 3))
  obtain ⟨z4, r4, e4⟩ := iI_of (f (i + 4))
  refine zd_go (ok_La_10 hG hl) [1371] 80 ?_
  conv => whnf
  refine ⟨_, _, Or.inr ol, by rw [show nI i + 1 = nI (i + 1) from nI_add i 1]; exact vp_in_nI (by omega) (by omega), ?_⟩
  rw [show nI i + 1 = nI (i + 1) from nI_add i 1, nI_clamp (by omega), e1]
  conv => whnf
  refine ⟨_, _, Or.inr ol, by rw [show nI i + 2 = nI (i + 2) from nI_add i 2]; exact vp_in_nI (by omega) (by omega), ?_⟩
  rw [show nI i + 2 = nI (i + 2) from nI_add i 2, nI_clamp (by omega), e2]
  conv => whnf
  refine ⟨_, _, Or.inr ol, by rw [show nI i + 3 = nI (i + 3) from nI_add i 3]; exact vp_in_nI (by omega) (by omega), ?_⟩
  rw [show nI i + 3 = nI (i + 3) from nI_add i 3, nI_clamp (by omega), e3]
  conv => whnf
  refine ⟨_, _, Or.inr ol, by rw [show nI i + 4 = nI (i + 4) from nI_add i 4]; exact vp_in_nI (by omega) (by omega), ?_⟩
  rw [show nI i + 4 = nI (i + 4) from nI_add i 4, nI_clamp (by omega), e4]
  conv => whnf
  refine ⟨⟨rfl, Nat.le_of_ble_eq_true rfl, Nat.le_of_ble_eq_true rfl⟩, ?_⟩
  refine la_root hG hl hN cw hR rm r1 r2 r3 r4 (fun h1 w1 ng1 ke1 => ?_)
  have mw1 := ke1.mw mw (gM_cS hk)
  have al1 := ke1.al al (cS64 hk)
  unfold Ng at ng1
  conv => whnf
  refine ⟨_, _, Or.inr ol, by rw [show nI i + 1 = nI (i + 1) from nI_add i 1]; exact vp_in_nI (by omega) (by omega), ?_⟩
  rw [show nI i + 1 = nI (i + 1) from nI_add i 1, nI_clamp (by omega), e1]
  conv => whnf
  refine ⟨_, _, Or.inr ol, by rw [show nI i + 2 = nI (i + 2) from nI_add i 2]; exact vp_in_nI (by omega) (by omega), ?_⟩
  rw [show nI i + 2 = nI (i + 2) from nI_add i 2, nI_clamp (by omega), e2]
  conv => whnf
  refine ⟨_, _, Or.inr ol, by rw [show nI i + 3 = nI (i + 3) from nI_add i 3]; exact vp_in_nI (by omega) (by omega), ?_⟩
  rw [show nI i + 3 = nI (i + 3) from nI_add i 3, nI_clamp (by omega), e3]
  conv => whnf
  refine ⟨_, _, Or.inr ol, by rw [show nI i + 4 = nI (i + 4) from nI_add i 4]; exact vp_in_nI (by omega) (by omega), ?_⟩
  rw [show nI i + 4 = nI (i + 4) from nI_add i 4, nI_clamp (by omega), e4]
  conv => whnf
  refine ⟨mw1.ob, ⟨rfl, Nat.le_of_ble_eq_true rfl, Nat.le_of_ble_eq_true rfl⟩, ?_⟩
  refine mo_root hG hl mw1 hR (by omega) r1 r2 r3 r4 (fun h2 w2 a2 b2 ke2 => ?_)
  conv => whnf
  refine ⟨w2.ob, ⟨rfl, Nat.le_of_ble_eq_true rfl, Nat.le_of_ble_eq_true rfl⟩, ?_⟩
  refine mo_thrown hG hl w2 (by omega) (fun h3 w3 a3 b3 ke3 => ?_)
  conv => whnf
  refine ⟨fun _ => ?_, fun z => absurd rfl z⟩
  conv => whnf
  refine ⟨?_, trivial⟩
  exact nx h3 _ _ ⟨_, _, D, ln, T, k, cap, f0, ke3.cw (ke2.cw w1 (cS_gM hk)) (cS_gM hk), w3, ke3.al (ke2.al al1 gM64) gM64, gen_ROk hR, hln, hD, hTl, by omega, by omega, by omega⟩
theorem lc_11 (hG : zd_G B) (hl : l.stackTraces = false) (hN : zd_N B) {n i sA : Nat} {f : Nat → Int32} {x5 x6 : Option Value} (ol : zd_Ol B sA n f) (hn : n ≤ 3072) (hi : i + 6 ≤ n) (L : LW B h i)
    (nx : ∀ h' x5 x6, LW B h' (i + 6) → zd_W l B m_La_law 1371 [some (.ref sA), some (.ref (zd_b0 B + 0)), some (.ref (zd_b0 B + 53)), some (.ref (zd_b0 B + 64)), some (.int (nI i)), x5, x6] [] h' Q) : zd_W l B m_La_law 842 [some (.ref sA), some (.ref (zd_b0 B + 0)), some (.ref (zd_b0 B + 53)), some (.ref (zd_b0 B + 64)), some (.int (nI i)), x5, x6] [] h Q := by
  obtain ⟨t, R, D, ln, T, k, cap, f0, cw, mw, al, hR, hln, hD, hTl, h64, hkh, hrm⟩ := L
  have hk : k = 35 ∨ 64 < k := by have := cw.2.2.2; omega
  have cb := cb_big
  have sb := sb_big
  have rm : Rm h := ⟨by omega, by omega⟩
  obtain ⟨z1, r1, e1⟩ := iI_of (f (i + 1))
  obtain ⟨z2, r2, e2⟩ := iI_of (f (i + 2))
  obtain ⟨z3, r3, e3⟩ := iI_of (f (i + 3))
  obtain ⟨z4, r4, e4⟩ := iI_of (f (i + 4))
  refine zd_go (ok_La_11 hG hl) [1371] 80 ?_
  conv => whnf
  refine ⟨_, _, Or.inr ol, by rw [show nI i + 1 = nI (i + 1) from nI_add i 1]; exact vp_in_nI (by omega) (by omega), ?_⟩
  rw [show nI i + 1 = nI (i + 1) from nI_add i 1, nI_clamp (by omega), e1]
  conv => whnf
  refine ⟨_, _, Or.inr ol, by rw [show nI i + 2 = nI (i + 2) from nI_add i 2]; exact vp_in_nI (by omega) (by omega), ?_⟩
  rw [show nI i + 2 = nI (i + 2) from nI_add i 2, nI_clamp (by omega), e2]
  conv => whnf
  refine ⟨_, _, Or.inr ol, by rw [show nI i + 3 = nI (i + 3) from nI_add i 3]; exact vp_in_nI (by omega) (by omega), ?_⟩
  rw [show nI i + 3 = nI (i + 3) from nI_add i 3, nI_clamp (by omega), e3]
  conv => whnf
  refine ⟨_, _, Or.inr ol, by rw [show nI i + 4 = nI (i + 4) from nI_add i 4]; exact vp_in_nI (by omega) (by omega), ?_⟩
  rw [show nI i + 4 = nI (i + 4) from nI_add i 4, nI_clamp (by omega), e4]
  conv => whnf
  refine ⟨⟨rfl, Nat.le_of_ble_eq_true rfl, Nat.le_of_ble_eq_true rfl⟩, ?_⟩
  refine la_toScale hG hl hN cw hR rm r1 r2 r3 r4 (fun h1 w1 ng1 ke1 => ?_)
  have mw1 := ke1.mw mw (gM_cS hk)
  have al1 := ke1.al al (cS64 hk)
  unfold Ng at ng1
  conv => whnf
  refine ⟨_, _, Or.inr ol, by rw [show nI i + 1 = nI (i + 1) from nI_add i 1]; exact vp_in_nI (by omega) (by omega), ?_⟩
  rw [show nI i + 1 = nI (i + 1) from nI_add i 1, nI_clamp (by omega), e1]
  conv => whnf
  refine ⟨_, _, Or.inr ol, by rw [show nI i + 2 = nI (i + 2) from nI_add i 2]; exact vp_in_nI (by omega) (by omega), ?_⟩
  rw [show nI i + 2 = nI (i + 2) from nI_add i 2, nI_clamp (by omega), e2]
  conv => whnf
  refine ⟨_, _, Or.inr ol, by rw [show nI i + 3 = nI (i + 3) from nI_add i 3]; exact vp_in_nI (by omega) (by omega), ?_⟩
  rw [show nI i + 3 = nI (i + 3) from nI_add i 3, nI_clamp (by omega), e3]
  conv => whnf
  refine ⟨_, _, Or.inr ol, by rw [show nI i + 4 = nI (i + 4) from nI_add i 4]; exact vp_in_nI (by omega) (by omega), ?_⟩
  rw [show nI i + 4 = nI (i + 4) from nI_add i 4, nI_clamp (by omega), e4]
  conv => whnf
  refine ⟨mw1.ob, ⟨rfl, Nat.le_of_ble_eq_true rfl, Nat.le_of_ble_eq_true rfl⟩, ?_⟩
  refine mo_toScale hG hl mw1 hR (by omega) r1 r2 r3 r4 (fun h2 w2 a2 b2 ke2 => ?_)
  conv => whnf
  refine ⟨w2.ob, ⟨rfl, Nat.le_of_ble_eq_true rfl, Nat.le_of_ble_eq_true rfl⟩, ?_⟩
  refine mo_thrown hG hl w2 (by omega) (fun h3 w3 a3 b3 ke3 => ?_)
  conv => whnf
  refine ⟨fun _ => ?_, fun z => absurd rfl z⟩
  conv => whnf
  refine ⟨?_, trivial⟩
  exact nx h3 _ _ ⟨_, _, D, ln, T, k, cap, f0, ke3.cw (ke2.cw w1 (cS_gM hk)) (cS_gM hk), w3, ke3.al (ke2.al al1 gM64) gM64, gen_ROk hR, hln, hD, hTl, by omega, by omega, by omega⟩
theorem lc_12 (hG : zd_G B) (hl : l.stackTraces = false) (hN : zd_N B) {n i sA : Nat} {f : Nat → Int32} {x5 x6 : Option Value} (ol : zd_Ol B sA n f) (hn : n ≤ 3072) (hi : i + 6 ≤ n) (L : LW B h i)
    (nx : ∀ h' x5 x6, LW B h' (i + 6) → zd_W l B m_La_law 1371 [some (.ref sA), some (.ref (zd_b0 B + 0)), some (.ref (zd_b0 B + 53)), some (.ref (zd_b0 B + 64)), some (.int (nI i)), x5, x6] [] h' Q) : zd_W l B m_La_law 914 [some (.ref sA), some (.ref (zd_b0 B + 0)), some (.ref (zd_b0 B + 53)), some (.ref (zd_b0 B + 64)), some (.int (nI i)), x5, x6] [] h Q := by
  obtain ⟨t, R, D, ln, T, k, cap, f0, cw, mw, al, hR, hln, hD, hTl, h64, hkh, hrm⟩ := L
  have hk : k = 35 ∨ 64 < k := by have := cw.2.2.2; omega
  have cb := cb_big
  have sb := sb_big
  have rm : Rm h := ⟨by omega, by omega⟩
  obtain ⟨z1, r1, e1⟩ := iI_of (f (i + 1))
  obtain ⟨z2, r2, e2⟩ := iI_of (f (i + 2))
  obtain ⟨z3, r3, e3⟩ := iI_of (f (i + 3))
  obtain ⟨z4, r4, e4⟩ := iI_of (f (i + 4))
  refine zd_go (ok_La_12 hG hl) [1371] 80 ?_
  conv => whnf
  refine ⟨_, _, Or.inr ol, by rw [show nI i + 1 = nI (i + 1) from nI_add i 1]; exact vp_in_nI (by omega) (by omega), ?_⟩
  rw [show nI i + 1 = nI (i + 1) from nI_add i 1, nI_clamp (by omega), e1]
  conv => whnf
  refine ⟨_, _, Or.inr ol, by rw [show nI i + 2 = nI (i + 2) from nI_add i 2]; exact vp_in_nI (by omega) (by omega), ?_⟩
  rw [show nI i + 2 = nI (i + 2) from nI_add i 2, nI_clamp (by omega), e2]
  conv => whnf
  refine ⟨_, _, Or.inr ol, by rw [show nI i + 3 = nI (i + 3) from nI_add i 3]; exact vp_in_nI (by omega) (by omega), ?_⟩
  rw [show nI i + 3 = nI (i + 3) from nI_add i 3, nI_clamp (by omega), e3]
  conv => whnf
  refine ⟨_, _, Or.inr ol, by rw [show nI i + 4 = nI (i + 4) from nI_add i 4]; exact vp_in_nI (by omega) (by omega), ?_⟩
  rw [show nI i + 4 = nI (i + 4) from nI_add i 4, nI_clamp (by omega), e4]
  conv => whnf
  refine ⟨⟨rfl, Nat.le_of_ble_eq_true rfl, Nat.le_of_ble_eq_true rfl⟩, ?_⟩
  refine la_round hG hl hN cw hR rm r1 r2 r3 r4 (fun h1 w1 ng1 ke1 => ?_)
  have mw1 := ke1.mw mw (gM_cS hk)
  have al1 := ke1.al al (cS64 hk)
  unfold Ng at ng1
  conv => whnf
  refine ⟨_, _, Or.inr ol, by rw [show nI i + 1 = nI (i + 1) from nI_add i 1]; exact vp_in_nI (by omega) (by omega), ?_⟩
  rw [show nI i + 1 = nI (i + 1) from nI_add i 1, nI_clamp (by omega), e1]
  conv => whnf
  refine ⟨_, _, Or.inr ol, by rw [show nI i + 2 = nI (i + 2) from nI_add i 2]; exact vp_in_nI (by omega) (by omega), ?_⟩
  rw [show nI i + 2 = nI (i + 2) from nI_add i 2, nI_clamp (by omega), e2]
  conv => whnf
  refine ⟨_, _, Or.inr ol, by rw [show nI i + 3 = nI (i + 3) from nI_add i 3]; exact vp_in_nI (by omega) (by omega), ?_⟩
  rw [show nI i + 3 = nI (i + 3) from nI_add i 3, nI_clamp (by omega), e3]
  conv => whnf
  refine ⟨_, _, Or.inr ol, by rw [show nI i + 4 = nI (i + 4) from nI_add i 4]; exact vp_in_nI (by omega) (by omega), ?_⟩
  rw [show nI i + 4 = nI (i + 4) from nI_add i 4, nI_clamp (by omega), e4]
  conv => whnf
  refine ⟨mw1.ob, ⟨rfl, Nat.le_of_ble_eq_true rfl, Nat.le_of_ble_eq_true rfl⟩, ?_⟩
  refine mo_round hG hl mw1 hR (by omega) r1 r2 r3 r4 (fun h2 w2 a2 b2 ke2 => ?_)
  conv => whnf
  refine ⟨w2.ob, ⟨rfl, Nat.le_of_ble_eq_true rfl, Nat.le_of_ble_eq_true rfl⟩, ?_⟩
  refine mo_thrown hG hl w2 (by omega) (fun h3 w3 a3 b3 ke3 => ?_)
  conv => whnf
  refine ⟨fun _ => ?_, fun z => absurd rfl z⟩
  conv => whnf
  refine ⟨?_, trivial⟩
  exact nx h3 _ _ ⟨_, _, D, ln, T, k, cap, f0, ke3.cw (ke2.cw w1 (cS_gM hk)) (cS_gM hk), w3, ke3.al (ke2.al al1 gM64) gM64, gen_ROk hR, hln, hD, hTl, by omega, by omega, by omega⟩
theorem lc_13 (hG : zd_G B) (hl : l.stackTraces = false) (hN : zd_N B) {n i sA : Nat} {f : Nat → Int32} {x5 x6 : Option Value} (ol : zd_Ol B sA n f) (hn : n ≤ 3072) (hi : i + 6 ≤ n) (L : LW B h i)
    (nx : ∀ h' x5 x6, LW B h' (i + 6) → zd_W l B m_La_law 1371 [some (.ref sA), some (.ref (zd_b0 B + 0)), some (.ref (zd_b0 B + 53)), some (.ref (zd_b0 B + 64)), some (.int (nI i)), x5, x6] [] h' Q) : zd_W l B m_La_law 986 [some (.ref sA), some (.ref (zd_b0 B + 0)), some (.ref (zd_b0 B + 53)), some (.ref (zd_b0 B + 64)), some (.int (nI i)), x5, x6] [] h Q := by
  obtain ⟨t, R, D, ln, T, k, cap, f0, cw, mw, al, hR, hln, hD, hTl, h64, hkh, hrm⟩ := L
  have hk : k = 35 ∨ 64 < k := by have := cw.2.2.2; omega
  have cb := cb_big
  have sb := sb_big
  have rm : Rm h := ⟨by omega, by omega⟩
  obtain ⟨z1, r1, e1⟩ := iI_of (f (i + 1))
  obtain ⟨z2, r2, e2⟩ := iI_of (f (i + 2))
  refine zd_go (ok_La_13 hG hl) [1371] 80 ?_
  conv => whnf
  refine ⟨_, _, Or.inr ol, by rw [show nI i + 1 = nI (i + 1) from nI_add i 1]; exact vp_in_nI (by omega) (by omega), ?_⟩
  rw [show nI i + 1 = nI (i + 1) from nI_add i 1, nI_clamp (by omega), e1]
  conv => whnf
  refine ⟨_, _, Or.inr ol, by rw [show nI i + 2 = nI (i + 2) from nI_add i 2]; exact vp_in_nI (by omega) (by omega), ?_⟩
  rw [show nI i + 2 = nI (i + 2) from nI_add i 2, nI_clamp (by omega), e2]
  conv => whnf
  refine ⟨⟨rfl, Nat.le_of_ble_eq_true rfl, Nat.le_of_ble_eq_true rfl⟩, ?_⟩
  refine la_strip hG hl hN cw hR rm r1 r2 (fun h1 w1 ng1 ke1 => ?_)
  have mw1 := ke1.mw mw (gM_cS hk)
  have al1 := ke1.al al (cS64 hk)
  unfold Ng at ng1
  conv => whnf
  refine ⟨_, _, Or.inr ol, by rw [show nI i + 1 = nI (i + 1) from nI_add i 1]; exact vp_in_nI (by omega) (by omega), ?_⟩
  rw [show nI i + 1 = nI (i + 1) from nI_add i 1, nI_clamp (by omega), e1]
  conv => whnf
  refine ⟨_, _, Or.inr ol, by rw [show nI i + 2 = nI (i + 2) from nI_add i 2]; exact vp_in_nI (by omega) (by omega), ?_⟩
  rw [show nI i + 2 = nI (i + 2) from nI_add i 2, nI_clamp (by omega), e2]
  conv => whnf
  refine ⟨mw1.ob, ⟨rfl, Nat.le_of_ble_eq_true rfl, Nat.le_of_ble_eq_true rfl⟩, ?_⟩
  refine mo_strip hG hl mw1 hR (by omega) r1 r2 (fun h2 w2 a2 b2 ke2 => ?_)
  conv => whnf
  refine ⟨w2.ob, ⟨rfl, Nat.le_of_ble_eq_true rfl, Nat.le_of_ble_eq_true rfl⟩, ?_⟩
  refine mo_thrown hG hl w2 (by omega) (fun h3 w3 a3 b3 ke3 => ?_)
  conv => whnf
  refine ⟨fun _ => ?_, fun z => absurd rfl z⟩
  conv => whnf
  refine ⟨?_, trivial⟩
  exact nx h3 _ _ ⟨_, _, D, ln, T, k, cap, f0, ke3.cw (ke2.cw w1 (cS_gM hk)) (cS_gM hk), w3, ke3.al (ke2.al al1 gM64) gM64, gen_ROk hR, hln, hD, hTl, by omega, by omega, by omega⟩
theorem lc_14 (hG : zd_G B) (hl : l.stackTraces = false) (hN : zd_N B) {n i sA : Nat} {f : Nat → Int32} {x5 x6 : Option Value} (ol : zd_Ol B sA n f) (hn : n ≤ 3072) (hi : i + 6 ≤ n) (L : LW B h i)
    (nx : ∀ h' x5 x6, LW B h' (i + 6) → zd_W l B m_La_law 1371 [some (.ref sA), some (.ref (zd_b0 B + 0)), some (.ref (zd_b0 B + 53)), some (.ref (zd_b0 B + 64)), some (.int (nI i)), x5, x6] [] h' Q) : zd_W l B m_La_law 1034 [some (.ref sA), some (.ref (zd_b0 B + 0)), some (.ref (zd_b0 B + 53)), some (.ref (zd_b0 B + 64)), some (.int (nI i)), x5, x6] [] h Q := by
  obtain ⟨t, R, D, ln, T, k, cap, f0, cw, mw, al, hR, hln, hD, hTl, h64, hkh, hrm⟩ := L
  have hk : k = 35 ∨ 64 < k := by have := cw.2.2.2; omega
  have cb := cb_big
  have sb := sb_big
  have rm : Rm h := ⟨by omega, by omega⟩
  obtain ⟨z1, r1, e1⟩ := iI_of (f (i + 1))
  obtain ⟨z2, r2, e2⟩ := iI_of (f (i + 2))
  obtain ⟨z3, r3, e3⟩ := iI_of (f (i + 3))
  refine zd_go (ok_La_14 hG hl) [1371] 80 ?_
  conv => whnf
  refine ⟨_, _, Or.inr ol, by rw [show nI i + 1 = nI (i + 1) from nI_add i 1]; exact vp_in_nI (by omega) (by omega), ?_⟩
  rw [show nI i + 1 = nI (i + 1) from nI_add i 1, nI_clamp (by omega), e1]
  conv => whnf
  refine ⟨_, _, Or.inr ol, by rw [show nI i + 2 = nI (i + 2) from nI_add i 2]; exact vp_in_nI (by omega) (by omega), ?_⟩
  rw [show nI i + 2 = nI (i + 2) from nI_add i 2, nI_clamp (by omega), e2]
  conv => whnf
  refine ⟨_, _, Or.inr ol, by rw [show nI i + 3 = nI (i + 3) from nI_add i 3]; exact vp_in_nI (by omega) (by omega), ?_⟩
  rw [show nI i + 3 = nI (i + 3) from nI_add i 3, nI_clamp (by omega), e3]
  conv => whnf
  refine ⟨⟨rfl, Nat.le_of_ble_eq_true rfl, Nat.le_of_ble_eq_true rfl⟩, ?_⟩
  refine la_shift hG hl hN cw hR rm r1 r2 r3 (fun h1 w1 ng1 ke1 => ?_)
  have mw1 := ke1.mw mw (gM_cS hk)
  have al1 := ke1.al al (cS64 hk)
  unfold Ng at ng1
  conv => whnf
  refine ⟨_, _, Or.inr ol, by rw [show nI i + 1 = nI (i + 1) from nI_add i 1]; exact vp_in_nI (by omega) (by omega), ?_⟩
  rw [show nI i + 1 = nI (i + 1) from nI_add i 1, nI_clamp (by omega), e1]
  conv => whnf
  refine ⟨_, _, Or.inr ol, by rw [show nI i + 2 = nI (i + 2) from nI_add i 2]; exact vp_in_nI (by omega) (by omega), ?_⟩
  rw [show nI i + 2 = nI (i + 2) from nI_add i 2, nI_clamp (by omega), e2]
  conv => whnf
  refine ⟨_, _, Or.inr ol, by rw [show nI i + 3 = nI (i + 3) from nI_add i 3]; exact vp_in_nI (by omega) (by omega), ?_⟩
  rw [show nI i + 3 = nI (i + 3) from nI_add i 3, nI_clamp (by omega), e3]
  conv => whnf
  refine ⟨mw1.ob, ⟨rfl, Nat.le_of_ble_eq_true rfl, Nat.le_of_ble_eq_true rfl⟩, ?_⟩
  refine mo_shift hG hl mw1 hR (by omega) r1 r2 r3 (fun h2 w2 a2 b2 ke2 => ?_)
  conv => whnf
  refine ⟨w2.ob, ⟨rfl, Nat.le_of_ble_eq_true rfl, Nat.le_of_ble_eq_true rfl⟩, ?_⟩
  refine mo_thrown hG hl w2 (by omega) (fun h3 w3 a3 b3 ke3 => ?_)
  conv => whnf
  refine ⟨fun _ => ?_, fun z => absurd rfl z⟩
  conv => whnf
  refine ⟨?_, trivial⟩
  exact nx h3 _ _ ⟨_, _, D, ln, T, k, cap, f0, ke3.cw (ke2.cw w1 (cS_gM hk)) (cS_gM hk), w3, ke3.al (ke2.al al1 gM64) gM64, gen_ROk hR, hln, hD, hTl, by omega, by omega, by omega⟩
theorem lc_15 (hG : zd_G B) (hl : l.stackTraces = false) (hN : zd_N B) {n i sA : Nat} {f : Nat → Int32} {x5 x6 : Option Value} (ol : zd_Ol B sA n f) (hn : n ≤ 3072) (hi : i + 6 ≤ n) (L : LW B h i)
    (nx : ∀ h' x5 x6, LW B h' (i + 6) → zd_W l B m_La_law 1371 [some (.ref sA), some (.ref (zd_b0 B + 0)), some (.ref (zd_b0 B + 53)), some (.ref (zd_b0 B + 64)), some (.int (nI i)), x5, x6] [] h' Q) : zd_W l B m_La_law 1094 [some (.ref sA), some (.ref (zd_b0 B + 0)), some (.ref (zd_b0 B + 53)), some (.ref (zd_b0 B + 64)), some (.int (nI i)), x5, x6] [] h Q := by
  obtain ⟨t, R, D, ln, T, k, cap, f0, cw, mw, al, hR, hln, hD, hTl, h64, hkh, hrm⟩ := L
  have hk : k = 35 ∨ 64 < k := by have := cw.2.2.2; omega
  have cb := cb_big
  have sb := sb_big
  have rm : Rm h := ⟨by omega, by omega⟩
  obtain ⟨z1, r1, e1⟩ := iI_of (f (i + 1))
  obtain ⟨z2, r2, e2⟩ := iI_of (f (i + 2))
  refine zd_go (ok_La_15 hG hl) [1371] 80 ?_
  conv => whnf
  refine ⟨_, _, Or.inr ol, by rw [show nI i + 1 = nI (i + 1) from nI_add i 1]; exact vp_in_nI (by omega) (by omega), ?_⟩
  rw [show nI i + 1 = nI (i + 1) from nI_add i 1, nI_clamp (by omega), e1]
  conv => whnf
  refine ⟨_, _, Or.inr ol, by rw [show nI i + 2 = nI (i + 2) from nI_add i 2]; exact vp_in_nI (by omega) (by omega), ?_⟩
  rw [show nI i + 2 = nI (i + 2) from nI_add i 2, nI_clamp (by omega), e2]
  conv => whnf
  refine ⟨⟨rfl, Nat.le_of_ble_eq_true rfl, Nat.le_of_ble_eq_true rfl⟩, ?_⟩
  refine la_negate hG hl hN cw hR rm r1 r2 (fun h1 w1 ng1 ke1 => ?_)
  have mw1 := ke1.mw mw (gM_cS hk)
  have al1 := ke1.al al (cS64 hk)
  unfold Ng at ng1
  conv => whnf
  refine ⟨_, _, Or.inr ol, by rw [show nI i + 1 = nI (i + 1) from nI_add i 1]; exact vp_in_nI (by omega) (by omega), ?_⟩
  rw [show nI i + 1 = nI (i + 1) from nI_add i 1, nI_clamp (by omega), e1]
  conv => whnf
  refine ⟨_, _, Or.inr ol, by rw [show nI i + 2 = nI (i + 2) from nI_add i 2]; exact vp_in_nI (by omega) (by omega), ?_⟩
  rw [show nI i + 2 = nI (i + 2) from nI_add i 2, nI_clamp (by omega), e2]
  conv => whnf
  refine ⟨mw1.ob, ⟨rfl, Nat.le_of_ble_eq_true rfl, Nat.le_of_ble_eq_true rfl⟩, ?_⟩
  refine mo_negate hG hl mw1 hR (by omega) r1 r2 (fun h2 w2 a2 b2 ke2 => ?_)
  conv => whnf
  refine ⟨w2.ob, ⟨rfl, Nat.le_of_ble_eq_true rfl, Nat.le_of_ble_eq_true rfl⟩, ?_⟩
  refine mo_thrown hG hl w2 (by omega) (fun h3 w3 a3 b3 ke3 => ?_)
  conv => whnf
  refine ⟨fun _ => ?_, fun z => absurd rfl z⟩
  conv => whnf
  refine ⟨?_, trivial⟩
  exact nx h3 _ _ ⟨_, _, D, ln, T, k, cap, f0, ke3.cw (ke2.cw w1 (cS_gM hk)) (cS_gM hk), w3, ke3.al (ke2.al al1 gM64) gM64, gen_ROk hR, hln, hD, hTl, by omega, by omega, by omega⟩
theorem lc_16 (hG : zd_G B) (hl : l.stackTraces = false) (hN : zd_N B) {n i sA : Nat} {f : Nat → Int32} {x5 x6 : Option Value} (ol : zd_Ol B sA n f) (hn : n ≤ 3072) (hi : i + 6 ≤ n) (L : LW B h i)
    (nx : ∀ h' x5 x6, LW B h' (i + 6) → zd_W l B m_La_law 1371 [some (.ref sA), some (.ref (zd_b0 B + 0)), some (.ref (zd_b0 B + 53)), some (.ref (zd_b0 B + 64)), some (.int (nI i)), x5, x6] [] h' Q) : zd_W l B m_La_law 1142 [some (.ref sA), some (.ref (zd_b0 B + 0)), some (.ref (zd_b0 B + 53)), some (.ref (zd_b0 B + 64)), some (.int (nI i)), x5, x6] [] h Q := by
  obtain ⟨t, R, D, ln, T, k, cap, f0, cw, mw, al, hR, hln, hD, hTl, h64, hkh, hrm⟩ := L
  have hk : k = 35 ∨ 64 < k := by have := cw.2.2.2; omega
  have cb := cb_big
  have sb := sb_big
  have rm : Rm h := ⟨by omega, by omega⟩
  obtain ⟨z1, r1, e1⟩ := iI_of (f (i + 1))
  obtain ⟨z2, r2, e2⟩ := iI_of (f (i + 2))
  refine zd_go (ok_La_16 hG hl) [1371] 80 ?_
  conv => whnf
  refine ⟨_, _, Or.inr ol, by rw [show nI i + 1 = nI (i + 1) from nI_add i 1]; exact vp_in_nI (by omega) (by omega), ?_⟩
  rw [show nI i + 1 = nI (i + 1) from nI_add i 1, nI_clamp (by omega), e1]
  conv => whnf
  refine ⟨_, _, Or.inr ol, by rw [show nI i + 2 = nI (i + 2) from nI_add i 2]; exact vp_in_nI (by omega) (by omega), ?_⟩
  rw [show nI i + 2 = nI (i + 2) from nI_add i 2, nI_clamp (by omega), e2]
  conv => whnf
  refine ⟨⟨rfl, Nat.le_of_ble_eq_true rfl, Nat.le_of_ble_eq_true rfl⟩, ?_⟩
  refine la_compare hG hl hN cw hR rm al r1 r2 (fun z h1 f1 ef w1 al1 ng1 ke1 => ?_) (fun z h1 w1 al1 ng1 ke1 => ?_)
  · have mw1 := ke1.mw mw (gM_oS hk)
    unfold Ng at ng1
    conv => whnf
    refine ⟨_, _, Or.inr ol, by rw [show nI i + 1 = nI (i + 1) from nI_add i 1]; exact vp_in_nI (by omega) (by omega), ?_⟩
    rw [show nI i + 1 = nI (i + 1) from nI_add i 1, nI_clamp (by omega), e1]
    conv => whnf
    refine ⟨_, _, Or.inr ol, by rw [show nI i + 2 = nI (i + 2) from nI_add i 2]; exact vp_in_nI (by omega) (by omega), ?_⟩
    rw [show nI i + 2 = nI (i + 2) from nI_add i 2, nI_clamp (by omega), e2]
    conv => whnf
    refine ⟨mw1.ob, ⟨rfl, Nat.le_of_ble_eq_true rfl, Nat.le_of_ble_eq_true rfl⟩, ?_⟩
    refine mo_compare hG hl mw1 hR (by omega) r1 r2 (fun _ h2 w2 a2 b2 ke2 => ?_) (fun z2 => absurd z2 z)
    conv => whnf
    refine ⟨w2.ob, ⟨rfl, Nat.le_of_ble_eq_true rfl, Nat.le_of_ble_eq_true rfl⟩, ?_⟩
    refine mo_thrown hG hl w2 (by omega) (fun h3 w3 a3 b3 ke3 => ?_)
    conv => whnf
    refine ⟨fun _ => ?_, fun z => absurd rfl z⟩
    conv => whnf
    refine ⟨fun z => absurd rfl z, fun _ => ?_⟩
    conv => whnf
    refine ⟨_, _, ke3.al (ke2.al al1 gM64) gM64, vp_in_nI (n := 0) (N := 1) (by decide) (by decide), ?_⟩
    conv => whnf
    rw [show f1 (Int32.toNatClampNeg 0) = _ from ef]
    refine ⟨fun _ => ?_, fun z => absurd (lg_cmp_self _) z⟩
    conv => whnf
    refine ⟨?_, trivial⟩
    exact nx h3 _ _ ⟨_, R, D, ln, _, k, cap, _, ke3.cw (ke2.cw w1 (cS_gM hk)) (cS_gM hk), w3, ke3.al (ke2.al al1 gM64) gM64, hR, hln, hD, hTl, by omega, by omega, by omega⟩
  · have mw1 := ke1.mw mw (gM_oS hk)
    unfold Ng at ng1
    conv => whnf
    refine ⟨_, _, Or.inr ol, by rw [show nI i + 1 = nI (i + 1) from nI_add i 1]; exact vp_in_nI (by omega) (by omega), ?_⟩
    rw [show nI i + 1 = nI (i + 1) from nI_add i 1, nI_clamp (by omega), e1]
    conv => whnf
    refine ⟨_, _, Or.inr ol, by rw [show nI i + 2 = nI (i + 2) from nI_add i 2]; exact vp_in_nI (by omega) (by omega), ?_⟩
    rw [show nI i + 2 = nI (i + 2) from nI_add i 2, nI_clamp (by omega), e2]
    conv => whnf
    refine ⟨mw1.ob, ⟨rfl, Nat.le_of_ble_eq_true rfl, Nat.le_of_ble_eq_true rfl⟩, ?_⟩
    refine mo_compare hG hl mw1 hR (by omega) r1 r2 (fun z2 => absurd z z2) (fun _ h2 w2 a2 b2 ke2 => ?_)
    conv => whnf
    refine ⟨w2.ob, ⟨rfl, Nat.le_of_ble_eq_true rfl, Nat.le_of_ble_eq_true rfl⟩, ?_⟩
    refine mo_thrown hG hl w2 (by omega) (fun h3 w3 a3 b3 ke3 => ?_)
    conv => whnf
    refine ⟨fun _ => ?_, fun z => absurd rfl z⟩
    conv => whnf
    refine ⟨fun _ => ?_, fun z => absurd z (by decide)⟩
    conv => whnf
    refine ⟨?_, trivial⟩
    exact nx h3 _ _ ⟨_, R, D, ln, _, k, cap, _, ke3.cw (ke2.cw w1 (cS_gM hk)) (cS_gM hk), w3, ke3.al (ke2.al al1 gM64) gM64, hR, hln, hD, hTl, by omega, by omega, by omega⟩
theorem lc_17 (hG : zd_G B) (hl : l.stackTraces = false) (hN : zd_N B) {n i sA : Nat} {f : Nat → Int32} {x5 x6 : Option Value} (ol : zd_Ol B sA n f) (hn : n ≤ 3072) (hi : i + 6 ≤ n) (L : LW B h i)
    (nx : ∀ h' x5 x6, LW B h' (i + 6) → zd_W l B m_La_law 1371 [some (.ref sA), some (.ref (zd_b0 B + 0)), some (.ref (zd_b0 B + 53)), some (.ref (zd_b0 B + 64)), some (.int (nI i)), x5, x6] [] h' Q) : zd_W l B m_La_law 1210 [some (.ref sA), some (.ref (zd_b0 B + 0)), some (.ref (zd_b0 B + 53)), some (.ref (zd_b0 B + 64)), some (.int (nI i)), x5, x6] [] h Q := by
  obtain ⟨t, R, D, ln, T, k, cap, f0, cw, mw, al, hR, hln, hD, hTl, h64, hkh, hrm⟩ := L
  have hk : k = 35 ∨ 64 < k := by have := cw.2.2.2; omega
  have cb := cb_big
  have sb := sb_big
  have rm : Rm h := ⟨by omega, by omega⟩
  obtain ⟨z1, r1, e1⟩ := iI_of (f (i + 1))
  obtain ⟨z2, r2, e2⟩ := iI_of (f (i + 2))
  refine zd_go (ok_La_17 hG hl) [1371] 80 ?_
  conv => whnf
  refine ⟨_, _, Or.inr ol, by rw [show nI i + 1 = nI (i + 1) from nI_add i 1]; exact vp_in_nI (by omega) (by omega), ?_⟩
  rw [show nI i + 1 = nI (i + 1) from nI_add i 1, nI_clamp (by omega), e1]
  conv => whnf
  refine ⟨_, _, Or.inr ol, by rw [show nI i + 2 = nI (i + 2) from nI_add i 2]; exact vp_in_nI (by omega) (by omega), ?_⟩
  rw [show nI i + 2 = nI (i + 2) from nI_add i 2, nI_clamp (by omega), e2]
  conv => whnf
  refine ⟨⟨rfl, Nat.le_of_ble_eq_true rfl, Nat.le_of_ble_eq_true rfl⟩, ?_⟩
  refine la_told hG hl hN cw hR rm al r1 r2 (fun z y h1 f1 ef w1 al1 ng1 ke1 => ?_) (fun z h1 w1 al1 ng1 ke1 => ?_) (fun z y h1 w1 al1 ng1 ke1 => ?_)
  · have mw1 := ke1.mw mw (gM_oS hk)
    unfold Ng at ng1
    conv => whnf
    refine ⟨_, _, Or.inr ol, by rw [show nI i + 1 = nI (i + 1) from nI_add i 1]; exact vp_in_nI (by omega) (by omega), ?_⟩
    rw [show nI i + 1 = nI (i + 1) from nI_add i 1, nI_clamp (by omega), e1]
    conv => whnf
    refine ⟨_, _, Or.inr ol, by rw [show nI i + 2 = nI (i + 2) from nI_add i 2]; exact vp_in_nI (by omega) (by omega), ?_⟩
    rw [show nI i + 2 = nI (i + 2) from nI_add i 2, nI_clamp (by omega), e2]
    conv => whnf
    refine ⟨mw1.ob, ⟨rfl, Nat.le_of_ble_eq_true rfl, Nat.le_of_ble_eq_true rfl⟩, ?_⟩
    refine mo_told hG hl mw1 hR (by omega) r1 r2 (fun _ _ h2 w2 a2 b2 ke2 => ?_) (fun z2 => absurd z2 z) (fun _ z2 => absurd z2 y)
    conv => whnf
    refine ⟨w2.ob, ⟨rfl, Nat.le_of_ble_eq_true rfl, Nat.le_of_ble_eq_true rfl⟩, ?_⟩
    refine mo_thrown hG hl w2 (by omega) (fun h3 w3 a3 b3 ke3 => ?_)
    conv => whnf
    refine ⟨fun _ => ?_, fun z => absurd rfl z⟩
    conv => whnf
    refine ⟨fun z => absurd rfl z, fun _ => ?_⟩
    conv => whnf
    refine ⟨_, _, ke3.al (ke2.al al1 gM64) gM64, vp_in_nI (n := 0) (N := 1) (by decide) (by decide), ?_⟩
    conv => whnf
    rw [show f1 (Int32.toNatClampNeg 0) = _ from ef]
    refine ⟨fun _ => ?_, fun z => absurd (lg_cmp_self _) z⟩
    conv => whnf
    refine ⟨?_, trivial⟩
    exact nx h3 _ _ ⟨_, R, D, ln, _, k, cap, _, ke3.cw (ke2.cw w1 (cS_gM hk)) (cS_gM hk), w3, ke3.al (ke2.al al1 gM64) gM64, hR, hln, hD, hTl, by omega, by omega, by omega⟩
  · have mw1 := ke1.mw mw (gM_oS hk)
    unfold Ng at ng1
    conv => whnf
    refine ⟨_, _, Or.inr ol, by rw [show nI i + 1 = nI (i + 1) from nI_add i 1]; exact vp_in_nI (by omega) (by omega), ?_⟩
    rw [show nI i + 1 = nI (i + 1) from nI_add i 1, nI_clamp (by omega), e1]
    conv => whnf
    refine ⟨_, _, Or.inr ol, by rw [show nI i + 2 = nI (i + 2) from nI_add i 2]; exact vp_in_nI (by omega) (by omega), ?_⟩
    rw [show nI i + 2 = nI (i + 2) from nI_add i 2, nI_clamp (by omega), e2]
    conv => whnf
    refine ⟨mw1.ob, ⟨rfl, Nat.le_of_ble_eq_true rfl, Nat.le_of_ble_eq_true rfl⟩, ?_⟩
    refine mo_told hG hl mw1 hR (by omega) r1 r2 (fun z2 => absurd z z2) (fun _ h2 w2 a2 b2 ke2 => ?_) (fun z2 => absurd z z2)
    conv => whnf
    refine ⟨w2.ob, ⟨rfl, Nat.le_of_ble_eq_true rfl, Nat.le_of_ble_eq_true rfl⟩, ?_⟩
    refine mo_thrown hG hl w2 (by omega) (fun h3 w3 a3 b3 ke3 => ?_)
    conv => whnf
    refine ⟨fun _ => ?_, fun z => absurd rfl z⟩
    conv => whnf
    refine ⟨fun _ => ?_, fun z => absurd z (by decide)⟩
    conv => whnf
    refine ⟨?_, trivial⟩
    exact nx h3 _ _ ⟨_, R, D, ln, _, k, cap, _, ke3.cw (ke2.cw w1 (cS_gM hk)) (cS_gM hk), w3, ke3.al (ke2.al al1 gM64) gM64, hR, hln, hD, hTl, by omega, by omega, by omega⟩
  · have mw1 := ke1.mw mw (gM_oS hk)
    unfold Ng at ng1
    conv => whnf
    refine ⟨_, _, Or.inr ol, by rw [show nI i + 1 = nI (i + 1) from nI_add i 1]; exact vp_in_nI (by omega) (by omega), ?_⟩
    rw [show nI i + 1 = nI (i + 1) from nI_add i 1, nI_clamp (by omega), e1]
    conv => whnf
    refine ⟨_, _, Or.inr ol, by rw [show nI i + 2 = nI (i + 2) from nI_add i 2]; exact vp_in_nI (by omega) (by omega), ?_⟩
    rw [show nI i + 2 = nI (i + 2) from nI_add i 2, nI_clamp (by omega), e2]
    conv => whnf
    refine ⟨mw1.ob, ⟨rfl, Nat.le_of_ble_eq_true rfl, Nat.le_of_ble_eq_true rfl⟩, ?_⟩
    refine mo_told hG hl mw1 hR (by omega) r1 r2 (fun _ z2 => absurd y z2) (fun z2 => absurd z2 z) (fun _ _ h2 w2 a2 b2 ke2 => ?_)
    conv => whnf
    refine ⟨w2.ob, ⟨rfl, Nat.le_of_ble_eq_true rfl, Nat.le_of_ble_eq_true rfl⟩, ?_⟩
    refine mo_thrown hG hl w2 (by omega) (fun h3 w3 a3 b3 ke3 => ?_)
    conv => whnf
    refine ⟨fun _ => ?_, fun z => absurd rfl z⟩
    conv => whnf
    refine ⟨fun _ => ?_, fun z => absurd z (by decide)⟩
    conv => whnf
    refine ⟨?_, trivial⟩
    exact nx h3 _ _ ⟨_, R, D, ln, _, k, cap, _, ke3.cw (ke2.cw w1 (cS_gM hk)) (cS_gM hk), w3, ke3.al (ke2.al al1 gM64) gM64, hR, hln, hD, hTl, by omega, by omega, by omega⟩
theorem lc_18 (hG : zd_G B) (hl : l.stackTraces = false) (hN : zd_N B) {n i sA : Nat} {f : Nat → Int32} {x5 x6 : Option Value} (ol : zd_Ol B sA n f) (hn : n ≤ 3072) (hi : i + 6 ≤ n) (L : LW B h i)
    (nx : ∀ h' x5 x6, LW B h' (i + 6) → zd_W l B m_La_law 1371 [some (.ref sA), some (.ref (zd_b0 B + 0)), some (.ref (zd_b0 B + 53)), some (.ref (zd_b0 B + 64)), some (.int (nI i)), x5, x6] [] h' Q) : zd_W l B m_La_law 1278 [some (.ref sA), some (.ref (zd_b0 B + 0)), some (.ref (zd_b0 B + 53)), some (.ref (zd_b0 B + 64)), some (.int (nI i)), x5, x6] [] h Q := by
  obtain ⟨t, R, D, ln, T, k, cap, f0, cw, mw, al, hR, hln, hD, hTl, h64, hkh, hrm⟩ := L
  have hk : k = 35 ∨ 64 < k := by have := cw.2.2.2; omega
  have cb := cb_big
  have sb := sb_big
  have rm : Rm h := ⟨by omega, by omega⟩
  obtain ⟨z1, r1, e1⟩ := iI_of (f (i + 1))
  obtain ⟨z2, r2, e2⟩ := iI_of (f (i + 2))
  refine zd_go (ok_La_18 hG hl) [1371] 80 ?_
  conv => whnf
  refine ⟨_, _, Or.inr ol, by rw [show nI i + 1 = nI (i + 1) from nI_add i 1]; exact vp_in_nI (by omega) (by omega), ?_⟩
  rw [show nI i + 1 = nI (i + 1) from nI_add i 1, nI_clamp (by omega), e1]
  conv => whnf
  refine ⟨_, _, Or.inr ol, by rw [show nI i + 2 = nI (i + 2) from nI_add i 2]; exact vp_in_nI (by omega) (by omega), ?_⟩
  rw [show nI i + 2 = nI (i + 2) from nI_add i 2, nI_clamp (by omega), e2]
  conv => whnf
  refine ⟨⟨rfl, Nat.le_of_ble_eq_true rfl, Nat.le_of_ble_eq_true rfl⟩, ?_⟩
  refine la_written hG hl hN cw hR h64 hkh rm (fun _ => by omega) al r1 r2 (fun z h1 f1 k' cap' ef w1 al1 ng1 ke1 => ?_) (fun z h1 w1 al1 ng1 ke1 => ?_)
  · have mw1 := ke1.mw mw (gM_oS hk)
    unfold Nk Ng at ng1
    conv => whnf
    refine ⟨_, _, Or.inr ol, by rw [show nI i + 1 = nI (i + 1) from nI_add i 1]; exact vp_in_nI (by omega) (by omega), ?_⟩
    rw [show nI i + 1 = nI (i + 1) from nI_add i 1, nI_clamp (by omega), e1]
    conv => whnf
    refine ⟨_, _, Or.inr ol, by rw [show nI i + 2 = nI (i + 2) from nI_add i 2]; exact vp_in_nI (by omega) (by omega), ?_⟩
    rw [show nI i + 2 = nI (i + 2) from nI_add i 2, nI_clamp (by omega), e2]
    conv => whnf
    refine ⟨mw1.ob, ⟨rfl, Nat.le_of_ble_eq_true rfl, Nat.le_of_ble_eq_true rfl⟩, ?_⟩
    refine mo_written hG hl mw1 hR (by omega) r1 r2 (fun _ tl h2 w2 a2 b2 ke2 => ?_) (fun z2 => absurd z2 z)
    conv => whnf
    refine ⟨w2.ob, ⟨rfl, Nat.le_of_ble_eq_true rfl, Nat.le_of_ble_eq_true rfl⟩, ?_⟩
    refine mo_thrown hG hl w2 (by omega) (fun h3 w3 a3 b3 ke3 => ?_)
    conv => whnf
    refine ⟨fun _ => ?_, fun z => absurd rfl z⟩
    conv => whnf
    have hk' : k' = 35 ∨ 64 < k' := by have := w1.2.2.2; omega
    refine ⟨fun z => absurd rfl z, fun _ => ?_⟩
    conv => whnf
    refine ⟨_, _, ke3.al (ke2.al al1 gM64) gM64, vp_in_nI (n := 0) (N := 1) (by decide) (by decide), ?_⟩
    conv => whnf
    rw [show f1 (Int32.toNatClampNeg 0) = _ from ef]
    refine ⟨fun _ => ?_, fun z => absurd (lg_cmp_self _) z⟩
    conv => whnf
    refine ⟨?_, trivial⟩
    exact nx h3 _ _ ⟨_, R, D, ln, _, k', cap', _, ke3.cw (ke2.cw w1 (cS_gM hk')) (cS_gM hk'), w3, ke3.al (ke2.al al1 gM64) gM64, hR, hln, hD, tl, by omega, by omega, by omega⟩
  · have mw1 := ke1.mw mw (gM_oS hk)
    unfold Ng at ng1
    conv => whnf
    refine ⟨_, _, Or.inr ol, by rw [show nI i + 1 = nI (i + 1) from nI_add i 1]; exact vp_in_nI (by omega) (by omega), ?_⟩
    rw [show nI i + 1 = nI (i + 1) from nI_add i 1, nI_clamp (by omega), e1]
    conv => whnf
    refine ⟨_, _, Or.inr ol, by rw [show nI i + 2 = nI (i + 2) from nI_add i 2]; exact vp_in_nI (by omega) (by omega), ?_⟩
    rw [show nI i + 2 = nI (i + 2) from nI_add i 2, nI_clamp (by omega), e2]
    conv => whnf
    refine ⟨mw1.ob, ⟨rfl, Nat.le_of_ble_eq_true rfl, Nat.le_of_ble_eq_true rfl⟩, ?_⟩
    refine mo_written hG hl mw1 hR (by omega) r1 r2 (fun z2 => absurd z z2) (fun _ h2 w2 a2 b2 ke2 => ?_)
    conv => whnf
    refine ⟨w2.ob, ⟨rfl, Nat.le_of_ble_eq_true rfl, Nat.le_of_ble_eq_true rfl⟩, ?_⟩
    refine mo_thrown hG hl w2 (by omega) (fun h3 w3 a3 b3 ke3 => ?_)
    conv => whnf
    refine ⟨fun _ => ?_, fun z => absurd rfl z⟩
    conv => whnf
    refine ⟨fun _ => ?_, fun z => absurd z (by decide)⟩
    conv => whnf
    refine ⟨?_, trivial⟩
    exact nx h3 _ _ ⟨_, R, D, ln, _, k, cap, _, ke3.cw (ke2.cw w1 (cS_gM hk)) (cS_gM hk), w3, ke3.al (ke2.al al1 gM64) gM64, hR, hln, hD, hTl, by omega, by omega, by omega⟩
theorem lc_19 (hG : zd_G B) (hl : l.stackTraces = false) (hN : zd_N B) {n i sA : Nat} {f : Nat → Int32} {x5 x6 : Option Value} (ol : zd_Ol B sA n f) (hn : n ≤ 3072) (hi : i + 6 ≤ n) (L : LW B h i)
    (nx : ∀ h' x5 x6, LW B h' (i + 6) → zd_W l B m_La_law 1371 [some (.ref sA), some (.ref (zd_b0 B + 0)), some (.ref (zd_b0 B + 53)), some (.ref (zd_b0 B + 64)), some (.int (nI i)), x5, x6] [] h' Q) : zd_W l B m_La_law 1346 [some (.ref sA), some (.ref (zd_b0 B + 0)), some (.ref (zd_b0 B + 53)), some (.ref (zd_b0 B + 64)), some (.int (nI i)), x5, x6] [] h Q := by
  obtain ⟨t, R, D, ln, T, k, cap, f0, cw, mw, al, hR, hln, hD, hTl, h64, hkh, hrm⟩ := L
  have hk : k = 35 ∨ 64 < k := by have := cw.2.2.2; omega
  have cb := cb_big
  have sb := sb_big
  have rm : Rm h := ⟨by omega, by omega⟩
  obtain ⟨z1, r1, e1⟩ := iI_of (f (i + 1))
  refine zd_go (ok_La_19 hG hl) [1371] 80 ?_
  conv => whnf
  refine ⟨_, _, Or.inr ol, by rw [show nI i + 1 = nI (i + 1) from nI_add i 1]; exact vp_in_nI (by omega) (by omega), ?_⟩
  rw [show nI i + 1 = nI (i + 1) from nI_add i 1, nI_clamp (by omega), e1]
  conv => whnf
  refine ⟨cw.ob, ⟨rfl, Nat.le_of_ble_eq_true rfl, Nat.le_of_ble_eq_true rfl⟩, ?_⟩
  refine cw_character hG hl cw r1 ?_
  conv => whnf
  refine ⟨_, _, Or.inr ol, by rw [show nI i + 1 = nI (i + 1) from nI_add i 1]; exact vp_in_nI (by omega) (by omega), ?_⟩
  rw [show nI i + 1 = nI (i + 1) from nI_add i 1, nI_clamp (by omega), e1]
  conv => whnf
  refine ⟨mw.ob, ⟨rfl, Nat.le_of_ble_eq_true rfl, Nat.le_of_ble_eq_true rfl⟩, ?_⟩
  refine mo_character hG hl mw (by omega) r1 hTl (fun h2 w2 a2 b2 ke2 => ?_)
  conv => whnf
  refine ⟨fun _ => ?_, fun z => absurd rfl z⟩
  refine ⟨?_, trivial⟩
  exact nx h2 _ _ ⟨_, R, _, _, T, k, cap, f0, ke2.cw cw (cS_gM hk), w2, ke2.al al gM64, hR, hln, hD, hTl, by omega, by omega, by omega⟩
end ZD

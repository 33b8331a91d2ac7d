/-! Rooter: extract -/
theorem ex_pure {s t X P : Nat} (hP : 0 < P) (h1 : IsS s (X / (P * P))) (h2 : IsS t X) : t ≤ (s + 1) * P ∧ (s + 1) * P - t ≤ P := by
  have hPP : 0 < P * P := Nat.mul_pos hP hP
  have a1 : X < (s + 1) * P * ((s + 1) * P) := by
    have := h1.2
    rw [Nat.div_lt_iff_lt_mul hPP] at this
    rw [show (s + 1) * P * ((s + 1) * P) = (s + 1) * (s + 1) * (P * P) by simp only [Nat.mul_assoc, Nat.mul_comm, Nat.mul_left_comm]]
    exact this
  have a2 : s * P * (s * P) ≤ X := by
    have := (Nat.le_div_iff_mul_le hPP).mp h1.1
    rw [show s * P * (s * P) = s * s * (P * P) by simp only [Nat.mul_assoc, Nat.mul_comm, Nat.mul_left_comm]]
    exact this
  have b1 := sq_lt (Nat.lt_of_le_of_lt h2.1 a1)
  have b2 := sq_lt (Nat.lt_of_le_of_lt a2 h2.2)
  refine ⟨by omega, ?_⟩
  rw [Nat.add_mul, Nat.one_mul]
  omega
theorem dg_le {V a : Nat} (h : V < 10 ^ a) (ha : 1 ≤ a) : dg V ≤ a := by
  rcases Nat.eq_zero_or_pos V with e | e
  · rw [e, dg_0]; exact ha
  · have := pow_lt_cancel (Nat.lt_of_le_of_lt (dg_ge V e) h)
    have := dg_pos V
    omega
theorem nl_le {V a : Nat} (h : V ≤ 10 ^ (9 * a)) : nl V ≤ a + 1 := by
  unfold nl
  split
  · omega
  · have := dg_le (V := V) (a := 9 * a + 1) (Nat.lt_of_le_of_lt h (Nat.pow_lt_pow_right (by decide) (by omega))) (by omega)
    omega
theorem dg_nl {V : Nat} (h : V ≠ 0) : dg V ≤ 9 * nl V ∧ 9 * nl V ≤ dg V + 8 := by
  unfold nl
  rw [if_neg h]
  omega
abbrev RoE : List Nat := [37, 38, 40, 41, 42, 43, 44, 45, 51, 52]
section RB
variable {l : Launch} {B : zd_B} {h : zd_H} {Q : zd_O → zd_H → Prop}
theorem w_Ro_ex23 (hG : zd_G B) (hl : l.stackTraces = false) {X w : Nat} (hX : 0 < X) (hX2 : nl X ≤ 224) (hw : w = (nl X + 1) / 2)
    (hq : ∀ h' s, Fg B h h' (CL B RoE) 0 → Dvd B h' 36 → Ns B h' 37 226 → Ns B h' 40 226 → Ns B h' 42 226 → Ns B h' 44 226 → IsS s X → Nv B h' 51 226 s → Q (.inl (some (.int (nI (if s * s = X then 1 else 0))))) h') :
    ∀ (e k lev s ex : Nat) (h1 : zd_H) (w7 : Option Value), w - k ≤ e → k ≤ w → lev ≤ k → ex ≤ 1 → (k = w → ex = if s * s = X then 1 else 0) → IsS s (X / 10 ^ (18 * (w - k))) → Fg B h h1 (CL B RoE) 0 → Rm h1 → Rtr B h1 → Dvd B h1 36 → Ns B h1 37 226 → Nv B h1 47 226 X → Ns B h1 40 226 → Ns B h1 42 226 → Ns B h1 44 226 → Nv B h1 51 226 s →
      zd_W l B m_Ro_extract 23 [some (.ref (zd_b0 B + 39)), some (.ref (zd_b0 B + 47)), some (.ref (zd_b0 B + 51)), some (.int (nI w)), some (.int (nI ex)), some (.int (nI k)), some (.int (nI lev)), w7] [] h1 Q := by
  have hdn := dg_nl (V := X) (by omega)
  have hX3 : X < 10 ^ (18 * w) := Nat.lt_of_lt_of_le (dg_lt X) (Nat.pow_le_pow_right (by decide) (by omega))
  have hX4 : 10 ^ (18 * (w - 1)) ≤ X := Nat.le_trans (Nat.pow_le_pow_right (by decide) (by omega)) (dg_ge X hX)
  have stop : ∀ (s ex : Nat) (h1 : zd_H) (k lev : Int32) (w7 : Option Value), ex ≤ 1 → (ex = if s * s = X then 1 else 0) → IsS s X → Fg B h h1 (CL B RoE) 0 → Dvd B h1 36 → Ns B h1 37 226 → Ns B h1 40 226 → Ns B h1 42 226 → Ns B h1 44 226 → Nv B h1 51 226 s → zd_W l B m_Ro_extract 113 [some (.ref (zd_b0 B + 39)), some (.ref (zd_b0 B + 47)), some (.ref (zd_b0 B + 51)), some (.int (nI w)), some (.int (nI ex)), some (.int k), some (.int lev), w7] [] h1 Q := by
    intro s ex h1 k lev w7 e1 e2 e3 e4 e5 e6 e7 e8 e9 e10
    have := hq h1 s e4 e5 e6 e7 e8 e9 e3 e10
    rw [← e2] at this
    refine zd_go (ok_Ro_extract hG hl) [] 60 ?_
    conv => whnf
    refine ⟨?_, this, trivial⟩
    rcases (show ex = 0 ∨ ex = 1 by omega) with e | e <;> rw [e] <;> rfl
  intro e
  induction e with
  | zero =>
    intro k lev s ex h1 w7 he hk hlev hex hexk hs fr hr hO hD hT hX1 hH hA hR hF
    have : k = w := by omega
    subst this
    rw [Nat.sub_self, Nat.mul_zero, Nat.pow_zero, Nat.div_one] at hs
    refine zd_go (ok_Ro_extract hG hl) [113] 60 ?_
    conv => whnf
    refine ⟨fun z => absurd z (nI_ge (b := 226) (by omega) (by omega)), fun z => ?_⟩
    conv => whnf
    refine ⟨fun z => ?_, fun z => absurd (Int32.le_refl _) z⟩
    conv => whnf
    exact ⟨stop s ex h1 _ _ _ hex (hexk rfl) hs fr hD hT hH hA hR hF, trivial⟩
  | succ e ih =>
    intro k lev s ex h1 w7 he hk hlev hex hexk hs fr hr hO hD hT hX1 hH hA hR hF
    rcases (show k = w ∨ k < w by omega) with c | c
    · subst c
      rw [Nat.sub_self, Nat.mul_zero, Nat.pow_zero, Nat.div_one] at hs
      refine zd_go (ok_Ro_extract hG hl) [113] 60 ?_
      conv => whnf
      refine ⟨fun z => absurd z (nI_ge (b := 226) (by omega) (by omega)), fun z => ?_⟩
      conv => whnf
      refine ⟨fun z => ?_, fun z => absurd (Int32.le_refl _) z⟩
      conv => whnf
      exact ⟨stop s ex h1 _ _ _ hex (hexk rfl) hs fr hD hT hH hA hR hF, trivial⟩
    · obtain ⟨mx, hmx⟩ : ∃ mx, mx = (if k + 1 < 2 * k - 1 then 2 * k - 1 else k + 1) := ⟨_, rfl⟩
      obtain ⟨nx, hnx⟩ : ∃ nx, nx = (if mx < w then mx else w) := ⟨_, rfl⟩
      have hmx2 : k + 1 ≤ mx ∧ (mx = k + 1 ∨ (mx = 2 * k - 1 ∧ k + 1 < 2 * k - 1)) := by rw [hmx]; split <;> omega
      have hnx2 : k < nx ∧ nx ≤ w ∧ nx ≤ mx := by rw [hnx]; split <;> omega
      obtain ⟨dl, hdl⟩ : ∃ dl, nx = k + dl := ⟨nx - k, by omega⟩
      have em : (if nI k + 1 < 2 * nI k - 1 then 2 * nI k - 1 else nI k + 1) = nI mx := by
        have q1 : nI k + 1 = iI ((k : Int) + 1) := by rw [iI_nI, show (1 : Int32) = iI 1 from rfl, iI_add]
        have q2 : 2 * nI k - 1 = iI (2 * (k : Int) - 1) := by rw [iI_nI, show (1 : Int32) = iI 1 from rfl, show (2 : Int32) = iI 2 from rfl, iI_mul, iI_sub]
        rw [q1, q2]
        by_cases q : k + 1 < 2 * k - 1
        · rw [if_pos ((iI_lt ⟨by omega, by omega⟩ ⟨by omega, by omega⟩).mpr (by omega)), hmx, if_pos q, iI_nI]
          congr 1
          omega
        · rw [if_neg (fun z => q (by have := (iI_lt ⟨by omega, by omega⟩ ⟨by omega, by omega⟩).mp z; omega)), hmx, if_neg q, iI_nI]
          rfl
      have en : (if nI mx < nI w then nI mx else nI w) = nI nx := by
        rw [hnx]
        by_cases q : mx < w
        · rw [if_pos (nI_lt q (by omega)), if_pos q]
        · rw [if_neg (nI_nlt (by omega) (by omega)), if_neg q]
      obtain ⟨fsH, obH⟩ := hH.ob
      refine zd_go (ok_Ro_extract hG hl) [23] 60 ?_
      conv => whnf
      refine ⟨fun z => absurd z (nI_ge (b := 226) (by omega) (by omega)), fun z => ?_⟩
      conv => whnf
      refine ⟨fun z => absurd z (nI_ge (by omega) (by omega)), fun z => ?_⟩
      conv => whnf
      refine ⟨⟨rfl, Nat.le_of_ble_eq_true rfl, Nat.le_of_ble_eq_true rfl⟩, ?_⟩
      refine c_Ma_max hG hl ?_
      rw [em]
      conv => whnf
      refine ⟨⟨rfl, Nat.le_of_ble_eq_true rfl, Nat.le_of_ble_eq_true rfl⟩, ?_⟩
      refine c_Ma_min hG hl ?_
      rw [en]
      conv => whnf
      refine ⟨_, hO, ?_⟩
      conv => whnf
      refine ⟨⟨_, obH⟩, ⟨rfl, Nat.le_of_ble_eq_true rfl, Nat.le_of_ble_eq_true rfl⟩, ?_⟩
      refine v_copy hG hl hH hX1 (by omega) hr (fun h2 a1 a2 a3 => ?_) (fun h2 a1 a2 => absurd hX1.nl (by omega))
      have g2 := a2.mono (NS.cl (ks := [40, 41]) (by decide))
      have hO2 : Rtr B h2 := g2.obc hO (by decide)
      have hF2 := hF.kc g2 (by decide)
      have hr2 := hr.k0 g2
      obtain ⟨fsH2, obH2⟩ := a3.ob
      conv => whnf
      refine ⟨_, hO2, ?_⟩
      conv => whnf
      refine ⟨⟨_, obH2⟩, ⟨rfl, Nat.le_of_ble_eq_true rfl, Nat.le_of_ble_eq_true rfl⟩, ?_⟩
      have ep : (-18 : Int32) * (nI w - nI nx) = iI (-(18 * (w - nx) : Nat)) := by
        rw [pk_sub (by omega), iI_nI, show (-18 : Int32) = iI (-18) from rfl, iI_mul]
        congr 1
        try omega
      rw [ep]
      refine v_move hG hl a3 (by omega) hr2 (fun h3 lost b1 b2 b3 b4 b5 => ?_) (fun h3 b1 b2 => by omega)
      have eX : X * 10 ^ (-((18 * (w - nx) : Nat) : Int)).toNat / 10 ^ (-(-((18 * (w - nx) : Nat) : Int))).toNat = X / 10 ^ (18 * (w - nx)) := by
        rw [show (-((18 * (w - nx) : Nat) : Int)).toNat = 0 by omega, show (-(-((18 * (w - nx) : Nat) : Int))).toNat = 18 * (w - nx) by omega, Nat.pow_zero, Nat.mul_one]
      rw [eX] at b3
      obtain ⟨Xn, hXn⟩ : ∃ Xn, Xn = X / 10 ^ (18 * (w - nx)) := ⟨_, rfl⟩
      rw [← hXn] at b3
      have g3 := g2.tr0 (b2.mono (NS.cl (ks := [40, 41]) (by decide)))
      have hF3 := hF.kc g3 (by decide)
      have hr3 := hr.k0 g3
      -- the numbers
      have eXk : X / 10 ^ (18 * (w - k)) = Xn / (10 ^ (9 * dl) * 10 ^ (9 * dl)) := by
        rw [hXn, Nat.div_div_eq_div_mul, ← Nat.pow_add, ← Nat.pow_add]
        congr 2
        try omega
      rw [eXk] at hs
      obtain ⟨t, ht⟩ := IsS.ex Xn
      obtain ⟨p1, p2⟩ := ex_pure (Nat.pow_pos (by decide)) hs ht
      have hXn1 : Xn < 10 ^ (18 * nx) := by
        rw [hXn, Nat.div_lt_iff_lt_mul (Nat.pow_pos (by decide)), ← Nat.pow_add, show 18 * nx + 18 * (w - nx) = 18 * w by omega]
        exact hX3
      have hXn2 : 10 ^ (18 * (nx - 1)) ≤ Xn := by
        rw [hXn, Nat.le_div_iff_mul_le (Nat.pow_pos (by decide)), ← Nat.pow_add, show 18 * (nx - 1) + 18 * (w - nx) = 18 * (w - 1) by omega]
        exact hX4
      have hXn0 : 0 < Xn := Nat.lt_of_lt_of_le (Nat.pow_pos (by decide)) hXn2
      have hsk : s < 10 ^ (9 * k) := by
        refine sq_lt (Nat.lt_of_le_of_lt hs.1 ?_)
        rw [← eXk, Nat.div_lt_iff_lt_mul (Nat.pow_pos (by decide)), ← Nat.pow_add, ← Nat.pow_add, show 9 * k + 9 * k + 18 * (w - k) = 18 * w by omega]
        exact hX3
      have hf0 : (s + 1) * 10 ^ (9 * dl) ≤ 10 ^ (9 * nx) := by
        rw [hdl, Nat.mul_add, Nat.pow_add]
        exact Nat.mul_le_mul_right _ hsk
      have hnlf := nl_le hf0
      have hnls := nl_le (a := k) (V := s) (by omega)
      have hnls1 := nl_le (a := k) (V := s + 1) (by omega)
      have hdgs1 : dg (s + 1) ≤ 9 * k + 1 := dg_le (by
        have : (10 : Nat) ^ (9 * k) < 10 ^ (9 * k + 1) := Nat.pow_lt_pow_right (by decide) (by omega)
        omega) (by omega)
      have hbig : (s + 1) * 10 ^ (9 * dl) - t < 2 ^ 999 ∨ ((s + 1) * 10 ^ (9 * dl) - t) * ((s + 1) * 10 ^ (9 * dl) - t) ≤ t := by
        rcases (show dl = 1 ∨ dl + 1 ≤ k by omega) with q | q
        · left
          rw [q] at p2 ⊢
          have : (10 : Nat) ^ (9 * 1) < 2 ^ 999 := Nat.lt_of_lt_of_le (show (10 : Nat) ^ (9 * 1) < 2 ^ 30 by decide) (Nat.pow_le_pow_right (by decide) (by decide))
          omega
        · right
          have q1 := Nat.mul_le_mul p2 p2
          rw [← Nat.pow_add] at q1
          have q2 : 10 ^ (9 * (nx - 1)) < t + 1 := by
            refine sq_lt (Nat.lt_of_le_of_lt ?_ ht.2)
            rw [← Nat.pow_add, show 9 * (nx - 1) + 9 * (nx - 1) = 18 * (nx - 1) by omega]
            exact hXn2
          have q3 : (10 : Nat) ^ (9 * dl + 9 * dl) ≤ 10 ^ (9 * (nx - 1)) := Nat.pow_le_pow_right (by decide) (by omega)
          omega
      obtain ⟨fsF3, obF3⟩ := hF3.ob
      conv => whnf
      refine ⟨⟨_, obF3⟩, ⟨rfl, Nat.le_of_ble_eq_true rfl, Nat.le_of_ble_eq_true rfl⟩, ?_⟩
      refine v_increment hG hl hF3 hr3 (by omega) (fun h4 c1 c2 => ?_)
      have g4 := c1.mono (NS.cl (ks := [51, 52]) (by decide))
      have hr4 := hr3.k0 c1
      have hH4 := b3.kc g4 (by decide)
      obtain ⟨fsF4, obF4⟩ := c2.ob
      conv => whnf
      refine ⟨⟨_, obF4⟩, ⟨rfl, Nat.le_of_ble_eq_true rfl, Nat.le_of_ble_eq_true rfl⟩, ?_⟩
      have e9 : (9 : Int32) * (nI nx - nI k) = iI ((9 * dl : Nat) : Int) := by
        rw [pk_sub (by omega), iI_nI, show (9 : Int32) = iI 9 from rfl, iI_mul]
        congr 1
        try omega
      rw [e9]
      have hfit : (dg (s + 1) + ((9 * dl : Nat) : Int).toNat + 8) / 9 ≤ 226 := by omega
      refine v_move hG hl c2 (by omega) hr4 (fun h5 lost5 d1 d2 d3 d4 d5 => ?_) (fun h5 d1 d2 d3 => by omega)
      have eF : (s + 1) * 10 ^ ((9 * dl : Nat) : Int).toNat / 10 ^ (-((9 * dl : Nat) : Int)).toNat = (s + 1) * 10 ^ (9 * dl) := by
        rw [show ((9 * dl : Nat) : Int).toNat = 9 * dl by omega, show (-((9 * dl : Nat) : Int)).toNat = 0 by omega, Nat.pow_zero, Nat.div_one]
      rw [eF] at d3
      have g5 := (g3.mono (CL.mono (ks' := [40, 41, 51, 52]) (by decide))).tr0 ((c1.tr0 d2).mono (NS.cl (ks := [40, 41, 51, 52]) (by decide)))
      have hO5 : Rtr B h5 := g5.obc hO (by decide)
      have hD5 : Dvd B h5 36 := g5.obc hD (by decide)
      have hT5 := hT.kc g5 (by decide)
      have hX5 := hX1.kc g5 (by decide)
      have hA5 := hA.kc g5 (by decide)
      have hR5 := hR.kc g5 (by decide)
      have hH5 := hH4.kept d2 (NS_n (by omega)).1 (NS_n (by omega)).2
      have hr5 := hr.k0 g5
      have hnXn : nl Xn ≤ 224 := by
        refine Nat.le_trans (nl_mono ?_) hX2
        rw [hXn]
        exact Nat.div_le_self _ _
      conv => whnf
      refine ⟨⟨_, hO5⟩, ⟨rfl, Nat.le_of_ble_eq_true rfl, Nat.le_of_ble_eq_true rfl⟩, ?_⟩
      refine c_Ro_descend hG hl ht hXn0 hnXn hr5 hO5 hD5 hT5 hH5 hA5 hR5 d3 p1 (by omega) hbig (fun h6 e1 e2 e3 e4 e5 e6 => ?_)
      conv => whnf
      refine ⟨?_, trivial⟩
      have hO6 : Rtr B h6 := e1.obc hO5 (by decide)
      have := ih nx (lev + 1) t (if t * t = Xn then 1 else 0) h6 (some (.int (nI nx))) (by omega) (by omega) (by omega) (by split <;> omega) (fun q => by rw [hXn, q, Nat.sub_self, Nat.mul_zero, Nat.pow_zero, Nat.div_one]) (by rw [← hXn]; exact ht) ((fr.tr0 (g5.mono (CL.mono (by decide)))).tr0 (e1.mono (CL.mono (by decide)))) (hr5.k0 e1) hO6 e2 e3 (hX5.kc e1 (by decide)) (hH5.s.kc e1 (by decide)) e4 e5 e6
      rw [← nI_1 lev] at this
      exact this
theorem c_Ro_extract (hG : zd_G B) (hl : l.stackTraces = false) {X : Nat} (hX : 0 < X) (hX2 : nl X ≤ 224) (hr : Rm h) (hO : Rtr B h) (hD : Dvd B h 36) (hT : Ns B h 37 226) (hX1 : Nv B h 47 226 X) (hH : Ns B h 40 226) (hA : Ns B h 42 226) (hR : Ns B h 44 226) (hF : Ns B h 51 226)
    (hq : ∀ h' s, Fg B h h' (CL B RoE) 0 → Dvd B h' 36 → Ns B h' 37 226 → Ns B h' 40 226 → Ns B h' 42 226 → Ns B h' 44 226 → IsS s X → Nv B h' 51 226 s → Q (.inl (some (.int (nI (if s * s = X then 1 else 0))))) h') :
    zd_M l B m_Ro_extract [.ref (zd_b0 B + 39), .ref (zd_b0 B + 47), .ref (zd_b0 B + 51)] h Q := by
  obtain ⟨gx, nx, hN, hz, hv⟩ := hX1
  obtain ⟨gf, nf, hF0⟩ := hF
  have en := nl_eq hN.2.2.2.2 hz
  rw [hv] at en
  have hn0 : nl X ≠ 0 := fun q => by have := nl_eq0.mp q; omega
  have ew : (nI nx + 1) / 2 = nI ((nl X + 1) / 2) := by
    rw [nI_1, show (2 : Int32) = nI 2 from rfl, pk_div (by omega) (by omega) (by omega), en]
  refine zd_go (ok_Ro_extract hG hl) [23] 60 ?_
  conv => whnf
  refine ⟨_, hN.1, ?_⟩
  conv => whnf
  refine ⟨by decide, ?_⟩
  conv => whnf
  refine ⟨⟨_, hF0.1⟩, ⟨rfl, Nat.le_of_ble_eq_true rfl, Nat.le_of_ble_eq_true rfl⟩, ?_⟩
  refine c_Na_claim (w := 0) hG hl hF0 (by omega) hr (fun h1 a1 a2 a3 => ?_) (fun h1 a1 a2 => by omega)
  have g1 := a2.mono (NS.cl (ks := [51, 52]) (by decide))
  have hdn := dg_nl (V := X) (by omega)
  have := w_Ro_ex23 hG hl hX hX2 rfl hq ((nl X + 1) / 2) 0 0 0 0 h1 none (by omega) (by omega) (by omega) (by omega) (fun q => by omega) (by
      rw [Nat.div_eq_of_lt (Nat.lt_of_lt_of_le (dg_lt X) (Nat.pow_le_pow_right (by decide) (by omega)))]
      exact ⟨by decide, by decide⟩) (g1.mono (CL.mono (by decide))) (hr.k0 g1) (g1.obc hO (by decide)) (g1.obc hD (by decide)) (hT.kc g1 (by decide)) (Nv.kc ⟨gx, nx, hN, hz, hv⟩ g1 (by decide)) (hH.kc g1 (by decide)) (hA.kc g1 (by decide)) (hR.kc g1 (by decide)) ⟨gf, 0, a3, Or.inl rfl, rfl⟩
  rw [← ew, nI_0] at this
  conv => whnf
  exact ⟨this, trivial⟩
end RB

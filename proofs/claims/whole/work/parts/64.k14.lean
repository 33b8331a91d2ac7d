/-! the model: divide -/
def sp_div (x y : zr) (s : Int) (md : Nat) : Option (Nat × Int) := (rnd md (x.1 != y.1) (qV x.2.1 y.2.1 x.2.2 (s + 1 + y.2.2) / 10) (qV x.2.1 y.2.1 x.2.2 (s + 1 + y.2.2) % 10) (qL x.2.1 y.2.1 x.2.2 (s + 1 + y.2.2))).map (fun q => (q, s))
theorem mulpow_div (V : Nat) {k d : Nat} (h : k ≤ d) : V * 10 ^ k / 10 ^ d = V / 10 ^ (d - k) := by
  have : 10 ^ d = 10 ^ (d - k) * 10 ^ k := by rw [← Nat.pow_add]; congr 1; omega
  rw [this, Nat.mul_div_mul_right _ _ (pow10_pos _)]
/-- the first k digits of V with zeros behind -/
theorem pre_step {V d k : Nat} (hd : V < 10 ^ d) : (if k < d then td V d k else 0) < 10 ∧ V * 10 ^ (k + 1) / 10 ^ d = V * 10 ^ k / 10 ^ d * 10 + (if k < d then td V d k else 0) := by
  constructor
  · split
    · exact td_lt _ _ _
    · decide
  · by_cases h : k < d
    · rw [if_pos h]
      have a := tv_td_pre hd (k := k + 1) (by omega)
      have b := tv_td_pre hd (k := k) (by omega)
      have c : tv (td V d) (k + 1) = tv (td V d) k * 10 + td V d k := rfl
      have e1 := mulpow_div V (k := k + 1) (d := d) (by omega)
      have e2 := mulpow_div V (k := k) (d := d) (by omega)
      rw [e1, e2, ← a, ← b, c]
    · rw [if_neg h, Nat.add_zero]
      have e3 : ∀ j, d ≤ j → V * 10 ^ j / 10 ^ d = V * 10 ^ (j - d) := fun j hj => by
        have : 10 ^ j = 10 ^ (j - d) * 10 ^ d := by rw [← Nat.pow_add]; congr 1; omega
        rw [this, ← Nat.mul_assoc, Nat.mul_div_cancel _ (pow10_pos _)]
      rw [e3 _ (by omega), e3 _ (by omega), show k + 1 - d = (k - d) + 1 by omega, Nat.pow_succ, Nat.mul_assoc, Nat.add_zero]
theorem q_big {x y : zr} {s : Int} {md : Nat} (hx : x.2.1 ≠ 0) (hy : y.2.1 ≠ 0) (h : 1000 < (dg x.2.1 : Int) - dg y.2.1 + (s + y.2.2 - x.2.2)) (h1 : dg x.2.1 ≤ 1000) : fin (sp_div x y s md) = none := by
  have a1 := dg_ge x.2.1 (by omega)
  have b1 := dg_lt y.2.1
  have c1 := dg_pos y.2.1
  have c2 := dg_pos x.2.1
  have hq : 10 ^ 1001 ≤ qV x.2.1 y.2.1 x.2.2 (s + 1 + y.2.2) := by
    unfold qV
    rw [show (x.2.2 - (s + 1 + y.2.2)).toNat = 0 by omega, Nat.pow_zero, Nat.mul_one, Nat.le_div_iff_mul_le (by omega)]
    have e1 : 10 ^ 1001 * y.2.1 ≤ 10 ^ 1001 * 10 ^ dg y.2.1 := Nat.mul_le_mul_left _ (Nat.le_of_lt b1)
    have e2 : 10 ^ (dg x.2.1 - 1) * 10 ^ (s + 1 + y.2.2 - x.2.2).toNat ≤ x.2.1 * 10 ^ (s + 1 + y.2.2 - x.2.2).toNat := Nat.mul_le_mul_right _ a1
    rw [← Nat.pow_add] at e1 e2
    have e3 : (10 : Nat) ^ (1001 + dg y.2.1) ≤ 10 ^ (dg x.2.1 - 1 + (s + 1 + y.2.2 - x.2.2).toNat) := Nat.pow_le_pow_right (by decide) (by omega)
    exact Nat.le_trans e1 (Nat.le_trans e3 e2)
  unfold sp_div
  have ge : ∀ q md neg g b r, rnd md neg q g b = some r → q ≤ r := by
    intro q md neg g b r e
    unfold rnd at e
    split at e
    · cases e; exact Nat.le_refl _
    · split at e
      · cases e
      · cases e; omega
  cases hr : rnd md (x.1 != y.1) (qV x.2.1 y.2.1 x.2.2 (s + 1 + y.2.2) / 10) (qV x.2.1 y.2.1 x.2.2 (s + 1 + y.2.2) % 10) (qL x.2.1 y.2.1 x.2.2 (s + 1 + y.2.2)) with
  | none => rfl
  | some r =>
    have h2 := ge _ _ _ _ _ _ hr
    have h3 : 10 ^ 1000 ≤ r := by
      refine Nat.le_trans ?_ h2
      rw [Nat.le_div_iff_mul_le (by decide), ← Nat.pow_succ]
      exact hq
    show fin (some (r, s)) = none
    rw [fin_some, if_neg]
    intro w
    have := (dg_le_iff (V := r) (n := 1000) (by decide)).mp w.1
    exact absurd h3 (Nat.not_le.mpr this)
theorem q_small {x y : zr} {s : Int} (hx : x.2.1 ≠ 0) (hy : y.2.1 ≠ 0) (h : (dg x.2.1 : Int) - dg y.2.1 + (s + y.2.2 - x.2.2) < -1) : qV x.2.1 y.2.1 x.2.2 (s + 1 + y.2.2) = 0 ∧ qL x.2.1 y.2.1 x.2.2 (s + 1 + y.2.2) = true := by
  have a1 := dg_lt x.2.1
  have b1 := dg_ge y.2.1 (by omega)
  have c1 := dg_pos y.2.1
  have c2 := dg_pos x.2.1
  have hlt : x.2.1 * 10 ^ (s + 1 + y.2.2 - x.2.2).toNat < y.2.1 * 10 ^ (x.2.2 - (s + 1 + y.2.2)).toNat := by
    have e1 : x.2.1 * 10 ^ (s + 1 + y.2.2 - x.2.2).toNat < 10 ^ dg x.2.1 * 10 ^ (s + 1 + y.2.2 - x.2.2).toNat := (Nat.mul_lt_mul_right (pow10_pos _)).mpr a1
    have e2 : 10 ^ (dg y.2.1 - 1) * 10 ^ (x.2.2 - (s + 1 + y.2.2)).toNat ≤ y.2.1 * 10 ^ (x.2.2 - (s + 1 + y.2.2)).toNat := Nat.mul_le_mul_right _ b1
    rw [← Nat.pow_add] at e1 e2
    have e3 : (10 : Nat) ^ (dg x.2.1 + (s + 1 + y.2.2 - x.2.2).toNat) ≤ 10 ^ (dg y.2.1 - 1 + (x.2.2 - (s + 1 + y.2.2)).toNat) := Nat.pow_le_pow_right (by decide) (by omega)
    omega
  unfold qV qL
  refine ⟨Nat.div_eq_of_lt hlt, decide_eq_true ?_⟩
  rw [Nat.mod_eq_of_lt hlt]
  exact Nat.ne_of_gt (Nat.mul_pos (by omega) (pow10_pos _))
theorem q_model {x y : zr} {s : Int} {zn zp : Nat} (hzn : zn = (-(s + y.2.2 - x.2.2)).toNat) (hzp : zp = (s + y.2.2 - x.2.2).toNat) : x.2.1 * 10 ^ (zp + 1) / (y.2.1 * 10 ^ zn) = qV x.2.1 y.2.1 x.2.2 (s + 1 + y.2.2) ∧ decide (x.2.1 * 10 ^ (zp + 1) % (y.2.1 * 10 ^ zn) ≠ 0) = qL x.2.1 y.2.1 x.2.2 (s + 1 + y.2.2) := by
  unfold qV qL
  by_cases h : 0 ≤ s + y.2.2 - x.2.2
  · rw [show zn = 0 by omega, show (x.2.2 - (s + 1 + y.2.2)).toNat = 0 by omega, show (s + 1 + y.2.2 - x.2.2).toNat = zp + 1 by omega]
    exact ⟨rfl, rfl⟩
  · rw [show zp + 1 = 1 by omega, show (s + 1 + y.2.2 - x.2.2).toNat = 0 by omega, show zn = (x.2.2 - (s + 1 + y.2.2)).toNat + 1 by omega, Nat.pow_zero, Nat.mul_one, Nat.pow_one, Nat.pow_succ, ← Nat.mul_assoc]
    refine ⟨Nat.mul_div_mul_right _ _ (by decide), ?_⟩
    rw [Nat.mul_mod_mul_right]
    generalize x.2.1 % (y.2.1 * 10 ^ (x.2.2 - (s + 1 + y.2.2)).toNat) = r
    by_cases e : r = 0
    · rw [e]
    · rw [decide_eq_true e, decide_eq_true (by omega)]
theorem i64m1 : (-1 : Int64) = lI (-1) := by decide
section KO
variable {l : Launch} {B : zd_B} {Q : Option Value → zst → Prop} {t ln sz : Nat} {sc : Int} {mo be : Bool} {ts us lz pr fa : Nat} {D K Mn : Nat → Nat} {Mi : Nat → Bool} {Sc : Nat → Int} {rw tp un lf pa : Nat → Nat}
/-- rounded and stored -/
theorem w_div388 (hG : zd_G B) (hl : l.stackTraces = false) {R : Nat → zr} (hR : ROk R) (hM : MR R K Mn Mi Sc) {A C T M : Nat} {s : Int} {o6 o8 : Int64} {x10 : Option Value} (lt : T < 10) (lm : M < 8) (hs1 : -10000 ≤ s) (hs2 : s ≤ 10000) (hsz : 1 ≤ sz) (hsz2 : sz ≤ 4399) (hd : ∀ i, rw i < 10) (ht : t = 0) (hfa : fa = 2) (hsc : sc = s + 1) (hbe : be = ((R A).1 != (R C).1))
    (hv : tv rw sz = qV (R A).2.1 (R C).2.1 (R A).2.2 (s + 1 + (R C).2.2)) (hmo : mo = qL (R A).2.1 (R C).2.1 (R A).2.2 (s + 1 + (R C).2.2))
    (hq : Res Q R T 0 ln pr 2 D pa K Mn Mi Sc ((R A).1 != (R C).1) (sp_div (R A) (R C) s M)) : zm_W l B gM m_Mo_divide 388 [some (.ref 53), some (.int (nI A)), some (.int (nI C)), some (.int (nI T)), some (.int (iI s)), some (.int (nI M)), some (.long o6), none, some (.long o8), none, x10, none] [] (mS t ln sz sc mo be ts us lz pr fa D K Mn Mi Sc rw tp un lf pa) Q := by
  subst ht
  subst hfa
  subst hsc
  subst hbe
  unfold sp_div at hq
  rw [← hv, ← hmo] at hq
  have e1 : tv rw ((sz : Int) - 1).toNat = tv rw sz / 10 := by
    rw [show ((sz : Int) - 1).toNat = sz - 1 by omega, tv_cutpre hd (n := sz) (by omega), show sz - (sz - 1) = 1 by omega, Nat.pow_one]
  have e2 : gdd rw ((sz : Int) - 1) = tv rw sz % 10 := by
    unfold gdd
    rw [if_pos (by omega), tv_mod10 hd (by omega)]
    congr 1
    omega
  have e3 : bdd rw sz mo ((sz : Int) - 1) = mo := by
    unfold bdd
    rw [show sz - ((sz : Int) - 1 + 1).toNat = 0 by omega, Nat.pow_zero, Nat.mod_one]
    simp
  refine zm_go (okm_Mo_divide hG hl) [] 200 ?_
  conv => whnf
  rw [show nI sz - 1 = iI ((sz : Int) - 1) by rw [iI_nI]; exact iI_sub _ 1]
  refine k_cut hG hl hsz2 hd (by omega) lm (by omega) (by omega) (fun e => ?_) (fun q n g' e c1 c2 c3 => ?_)
  · rw [e1, e2, e3] at e
    rw [e] at hq
    conv => whnf
    refine ⟨fun _ => ?_, fun z => absurd rfl z⟩
    conv => whnf
    exact ⟨hq.2 rfl _ _ _ _ _ _ _ _ _ _ _ hd, trivial⟩
  · rw [e1, e2, e3] at e
    rw [e] at hq
    conv => whnf
    refine ⟨fun z => absurd z (by decide), fun _ => ?_⟩
    conv => whnf
    refine k_storeA hG hl hR hM lt (by omega) c1 (by omega) ?_
    rw [c2, show s + 1 - ((sz : Int) - ((sz : Int) - 1)) = s by omega]
    refine Res.imp hq (fun m hm => ?_)
    conv => whnf
    exact ⟨hm, trivial⟩
/-- the dividend's figures, one after the other -/
theorem w_div268 (hG : zd_G B) (hl : l.stackTraces = false) {R : Nat → zr} (hR : ROk R) (hM : MR R K Mn Mi Sc) {A C T M zp : Nat} {s zr0 : Int} {o8 : Int64} (la : A < 10) (hus : us ≤ 2200) (hu : ∀ j, j < us → un j < 10) (hU : 0 < tv un us) (hzp : zp = zr0.toNat) (hzr : -100000 < zr0 ∧ zr0 < 100000) (htot : dg (R A).2.1 + zp ≤ 3000)
    (hq : ∀ g n f', n ≤ dg (R A).2.1 + zp → QN g n ((R A).2.1 * 10 ^ zp / tv un us) → (∀ j, j ≤ us → f' j < 10) → tv f' (us + 1) = (R A).2.1 * 10 ^ zp % tv un us → zm_W l B gM m_Mo_divide 343 [some (.ref 53), some (.int (nI A)), some (.int (nI C)), some (.int (nI T)), some (.int (iI s)), some (.int (nI M)), some (.long (lI zr0)), none, some (.long o8), none, some (.long (lI ((dg (R A).2.1 + zp : Nat) : Int))), none] [] (mS t ln (n) sc mo be ts us lz pr fa D K Mn Mi Sc (g) tp un (f') pa) Q) :
    ∀ (d k : Nat) (g f : Nat → Nat) (n : Nat), k + d = dg (R A).2.1 + zp → n ≤ k → QN g n ((R A).2.1 * 10 ^ k / 10 ^ dg (R A).2.1 / tv un us) → (∀ j, j ≤ us → f j < 10) → tv f (us + 1) = (R A).2.1 * 10 ^ k / 10 ^ dg (R A).2.1 % tv un us → zm_W l B gM m_Mo_divide 268 [some (.ref 53), some (.int (nI A)), some (.int (nI C)), some (.int (nI T)), some (.int (iI s)), some (.int (nI M)), some (.long (lI zr0)), none, some (.long o8), none, some (.long (lI (k : Int))), none] [] (mS t ln (n) sc mo be ts us lz pr fa D K Mn Mi Sc (g) tp un (f) pa) Q := by
  obtain ⟨mr, kr, nr, sr⟩ := hM.2 A la
  have rr := (hR A la).1
  have r0 : lR 0 := ⟨by decide, by decide⟩
  have rz : lR zr0 := ⟨by omega, by omega⟩
  intro d
  induction d with
  | zero =>
    intro k g f n hk hn h1 h2 h3
    have e : k = dg (R A).2.1 + zp := by omega
    subst e
    rw [Nat.pow_add, Nat.mul_comm (10 ^ dg (R A).2.1), ← Nat.mul_assoc, Nat.mul_div_cancel _ (pow10_pos _)] at h1 h3
    have fin := hq g n f hn h1 h2 h3
    refine zm_go (okm_Mo_divide hG hl) [343] 200 ?_
    conv => whnf
    refine ⟨A, rfl, by omega, ?_⟩
    conv => whnf
    dsimp only
    rw [mr, iI_nI (dg (R A).2.1), iI_l ⟨by omega, by omega⟩]
    by_cases hz : zr0 ≤ 0
    · refine ⟨fun _ => ?_, fun z => absurd ((lg_cmp_le _ _).mpr ((lI_le rz r0).mpr hz)) z⟩
      conv => whnf
      rw [show lI ((dg (R A).2.1 : Nat) : Int) + 0 = lI ((dg (R A).2.1 + zp : Nat) : Int) by rw [show (0 : Int64) = lI 0 from rfl, lI_add]; congr 1; omega]
      refine ⟨fun _ => ?_, fun z => absurd ((lg_cmp_ge _ _).mpr (Int64.le_refl _)) z⟩
      refine ⟨?_, trivial⟩
      try dsimp only
      exact fin
    · refine ⟨fun z => absurd ((lI_le rz r0).mp ((lg_cmp_le _ _).mp z)) hz, fun _ => ?_⟩
      conv => whnf
      rw [lI_add, show ((dg (R A).2.1 : Nat) : Int) + zr0 = ((dg (R A).2.1 + zp : Nat) : Int) by omega]
      refine ⟨fun _ => ?_, fun z => absurd ((lg_cmp_ge _ _).mpr (Int64.le_refl _)) z⟩
      refine ⟨?_, trivial⟩
      try dsimp only
      exact fin
  | succ d ih =>
    intro k g f n hk hn h1 h2 h3
    obtain ⟨p1, p2⟩ := pre_step (V := (R A).2.1) (d := dg (R A).2.1) (k := k) (dg_lt _)
    have hml := Nat.mod_lt ((R A).2.1 * 10 ^ k / 10 ^ dg (R A).2.1) hU
    have body : zm_W l B gM m_Mo_divide 328 [some (.ref 53), some (.int (nI A)), some (.int (nI C)), some (.int (nI T)), some (.int (iI s)), some (.int (nI M)), some (.long (lI zr0)), none, some (.long o8), none, some (.long (lI (k : Int))), none] [.int (nI (if k < dg (R A).2.1 then td (R A).2.1 (dg (R A).2.1) k else 0)), .ref 53, .ref 53] (mS t ln (n) sc mo be ts us lz pr fa D K Mn Mi Sc (g) tp un (f) pa) Q := by
      refine zm_go (okm_Mo_divide hG hl) [268] 200 ?_
      conv => whnf
      refine k_nextFigure hG hl hus hu h2 p1 (by rw [h3]; exact hml) (fun f' a1 a2 => ?_)
      conv => whnf
      obtain ⟨s1, s2⟩ := div_step ((R A).2.1 * 10 ^ k / 10 ^ dg (R A).2.1) (tv un us) (if k < dg (R A).2.1 then td (R A).2.1 (dg (R A).2.1) k else 0) hU
      rw [h3] at a2 ⊢
      rw [← p2] at s1 s2
      have hd10 : ((R A).2.1 * 10 ^ k / 10 ^ dg (R A).2.1 % tv un us * 10 + if k < dg (R A).2.1 then td (R A).2.1 (dg (R A).2.1) k else 0) / tv un us < 10 := by
        rw [Nat.div_lt_iff_lt_mul hU]
        omega
      refine k_append hG hl (by omega) h1 hd10 (fun g' n' b1 b2 => ?_)
      rw [← s1] at b1
      rw [← s2] at a2
      conv => whnf
      refine ⟨?_, trivial⟩
      try dsimp only
      rw [show lI (k : Int) + 1 = lI ((k + 1 : Nat) : Int) by show _ + lI 1 = _; rw [lI_add]; rfl]
      exact ih (k + 1) g' f' n' (by omega) (by omega) b1 a1 a2
    have tail : zm_W l B gM m_Mo_divide 295 [some (.ref 53), some (.int (nI A)), some (.int (nI C)), some (.int (nI T)), some (.int (iI s)), some (.int (nI M)), some (.long (lI zr0)), none, some (.long o8), none, some (.long (lI (k : Int))), none] [] (mS t ln (n) sc mo be ts us lz pr fa D K Mn Mi Sc (g) tp un (f) pa) Q := by
      refine zm_go (okm_Mo_divide hG hl) [328] 200 ?_
      conv => whnf
      refine ⟨A, rfl, by omega, ?_⟩
      conv => whnf
      dsimp only
      rw [mr, iI_nI (dg (R A).2.1), iI_l ⟨by omega, by omega⟩]
      by_cases q : k < dg (R A).2.1
      · rw [if_pos q, ← kr k q] at body
        refine ⟨fun z => absurd ((lI_le ⟨by omega, by omega⟩ ⟨by omega, by omega⟩).mp ((lg_cmp_ge _ _).mp z)) (by omega), fun _ => ?_⟩
        conv => whnf
        refine ⟨(1000 * A + k), by rw [lI_i, ← nI_add, ← lmul, ← iI_nI]; rfl, by omega, ?_⟩
        conv => whnf
        refine ⟨?_, trivial⟩
        try dsimp only
        exact body
      · rw [if_neg q] at body
        refine ⟨fun _ => ?_, fun z => absurd ((lg_cmp_ge _ _).mpr ((lI_le ⟨by omega, by omega⟩ ⟨by omega, by omega⟩).mpr (by omega))) z⟩
        conv => whnf
        refine ⟨?_, trivial⟩
        try dsimp only
        exact body
    refine zm_go (okm_Mo_divide hG hl) [295] 200 ?_
    conv => whnf
    refine ⟨A, rfl, by omega, ?_⟩
    conv => whnf
    dsimp only
    rw [mr, iI_nI (dg (R A).2.1), iI_l ⟨by omega, by omega⟩]
    by_cases hz : zr0 ≤ 0
    · refine ⟨fun _ => ?_, fun z => absurd ((lg_cmp_le _ _).mpr ((lI_le rz r0).mpr hz)) z⟩
      conv => whnf
      rw [show lI ((dg (R A).2.1 : Nat) : Int) + 0 = lI ((dg (R A).2.1 + zp : Nat) : Int) by rw [show (0 : Int64) = lI 0 from rfl, lI_add]; congr 1; omega]
      refine ⟨fun z => absurd ((lI_le ⟨by omega, by omega⟩ ⟨by omega, by omega⟩).mp ((lg_cmp_ge _ _).mp z)) (by omega), fun _ => ?_⟩
      refine ⟨?_, trivial⟩
      try dsimp only
      exact tail
    · refine ⟨fun z => absurd ((lI_le rz r0).mp ((lg_cmp_le _ _).mp z)) hz, fun _ => ?_⟩
      conv => whnf
      rw [lI_add, show ((dg (R A).2.1 : Nat) : Int) + zr0 = ((dg (R A).2.1 + zp : Nat) : Int) by omega]
      refine ⟨fun z => absurd ((lI_le ⟨by omega, by omega⟩ ⟨by omega, by omega⟩).mp ((lg_cmp_ge _ _).mp z)) (by omega), fun _ => ?_⟩
      refine ⟨?_, trivial⟩
      try dsimp only
      exact tail
theorem w_div140 (hG : zd_G B) (hl : l.stackTraces = false) {R : Nat → zr} (hR : ROk R) (hM : MR R K Mn Mi Sc) {A C T M : Nat} {s : Int} (la : A < 10) (lb : C < 10) (lt : T < 10) (lm : M < 8) (hs1 : -10000 ≤ s) (hs2 : s ≤ 10000) (hd : ∀ i, rw i < 10) (hC : (R C).2.1 ≠ 0) (ht : t = 0) (hfa : fa = 2)
    (hq : Res Q R T 0 ln pr 2 D pa K Mn Mi Sc ((R A).1 != (R C).1) (sp_div (R A) (R C) s M)) : zm_W l B gM m_Mo_divide 140 [some (.ref 53), some (.int (nI A)), some (.int (nI C)), some (.int (nI T)), some (.int (iI s)), some (.int (nI M)), some (.long (lI (s + (R C).2.2 - (R A).2.2))), none, some (.long (lI ((dg (R A).2.1 : Int) - dg (R C).2.1 + (s + (R C).2.2 - (R A).2.2)))), none, none, none] [.int (bI ((R A).1 != (R C).1)), .ref 53] (mS t ln sz sc mo be ts us lz pr fa D K Mn Mi Sc rw tp un lf pa) Q := by
  subst ht
  subst hfa
  obtain ⟨ra, ra2, ra3, -⟩ := hR A la
  obtain ⟨rb, rb2, rb3, -⟩ := hR C lb
  have pa1 := dg_pos (R A).2.1
  have pb1 := dg_pos (R C).2.1
  have rs : iR s := ⟨by omega, by omega⟩
  have rF : lR ((dg (R A).2.1 : Int) - dg (R C).2.1 + (s + (R C).2.2 - (R A).2.2)) := ⟨by omega, by omega⟩
  have e1s : lI s + 1 = lI (s + 1) := lI_add s 1
  refine zm_go (okm_Mo_divide hG hl) [183, 200, 241] 200 ?_
  conv => whnf
  refine ⟨((R A).1 != (R C).1), rfl, ?_⟩
  conv => whnf
  refine ⟨false, rfl, ?_⟩
  conv => whnf
  rw [iI_l rs]
  refine k_isZero hG hl hM la ?_
  conv => whnf
  by_cases ez : (R A).2.1 = 0
  · rw [decide_eq_true ez]
    refine ⟨fun _ => ?_, fun z => absurd z (by decide)⟩
    refine ⟨?_, trivial⟩
    try dsimp only
    refine zm_go (okm_Mo_divide hG hl) [388] 200 ?_
    conv => whnf
    refine k_isZero hG hl hM la ?_
    rw [decide_eq_true ez]
    conv => whnf
    refine ⟨fun _ => ?_, fun z => absurd z (by decide)⟩
    conv => whnf
    refine k_isZero hG hl hM la ?_
    rw [decide_eq_true ez]
    conv => whnf
    refine ⟨fun _ => ?_, fun z => absurd z (by decide)⟩
    conv => whnf
    refine ⟨false, rfl, ?_⟩
    conv => whnf
    refine ⟨0, rfl, by omega, ?_⟩
    conv => whnf
    refine ⟨?_, trivial⟩
    try dsimp only
    rw [show (0 : Int32) = nI 0 from rfl, iI_l rs, e1s]
    rw [upd_nI]
    have q1 : qV (R A).2.1 (R C).2.1 (R A).2.2 (s + 1 + (R C).2.2) = 0 := by unfold qV; rw [ez]; simp
    have q2 : qL (R A).2.1 (R C).2.1 (R A).2.2 (s + 1 + (R C).2.2) = false := by unfold qL; rw [ez]; simp
    exact w_div388 (sz := 1) (rw := zu rw 0 0) (mo := false) hG hl hR hM lt lm hs1 hs2 (by decide) (by decide) (zu_lt hd (by decide)) rfl rfl rfl rfl (by rw [q1]; show 0 * 10 + zu rw 0 0 0 = 0; rw [zu_s]) q2.symm hq
  · rw [decide_eq_false ez]
    refine ⟨fun z => absurd rfl z, fun _ => ?_⟩
    conv => whnf
    by_cases big : (dg (R A).2.1 : Int) - dg (R C).2.1 + (s + (R C).2.2 - (R A).2.2) ≤ 1000
    · refine ⟨fun _ => ?_, fun z => absurd ((lg_cmp_le _ _).mpr ((lI_le (b := 1000) rF ⟨by decide, by decide⟩).mpr big)) z⟩
      refine ⟨?_, trivial⟩
      try dsimp only
      refine zm_go (okm_Mo_divide hG hl) [200, 241] 200 ?_
      conv => whnf
      refine k_isZero hG hl hM la ?_
      rw [decide_eq_false ez]
      conv => whnf
      refine ⟨fun z => absurd rfl z, fun _ => ?_⟩
      conv => whnf
      rw [i64m1]
      by_cases sml : -1 ≤ (dg (R A).2.1 : Int) - dg (R C).2.1 + (s + (R C).2.2 - (R A).2.2)
      · refine ⟨fun _ => ?_, fun z => absurd ((lg_cmp_ge _ _).mpr ((lI_le (a := -1) ⟨by decide, by decide⟩ rF).mpr sml)) z⟩
        refine ⟨?_, trivial⟩
        try dsimp only
        have body : ∀ zn zp : Nat, zn = (-(s + (R C).2.2 - (R A).2.2)).toNat → zp = (s + (R C).2.2 - (R A).2.2).toNat → zm_W l B gM m_Mo_divide 258 [some (.ref 53), some (.int (nI A)), some (.int (nI C)), some (.int (nI T)), some (.int (iI s)), some (.int (nI M)), some (.long (lI (s + (R C).2.2 - (R A).2.2))), none, some (.long (lI ((dg (R A).2.1 : Int) - dg (R C).2.1 + (s + (R C).2.2 - (R A).2.2)))), none, none, none] [.int (nI zn), .int (nI C), .ref 53] (mS (0) ln (0) (s) (false) (((R A).1 != (R C).1)) ts us lz pr (2) D K Mn Mi Sc rw tp un lf pa) Q := by
          intro zn zp hzn hzp
          obtain ⟨m1, m2⟩ := q_model (x := R A) (y := R C) (s := s) hzn hzp
          refine zm_go (okm_Mo_divide hG hl) [268] 200 ?_
          conv => whnf
          refine k_loadUnder hG hl hR hM lb (by omega) (fun u' a1 a2 => ?_)
          conv => whnf
          refine k_beginQuotient hG hl (by omega) (fun f0 b1 => ?_)
          conv => whnf
          refine ⟨?_, trivial⟩
          try dsimp only
          have hU : 0 < tv u' (dg (R C).2.1 + zn) := by rw [a2]; exact Nat.mul_pos (by omega) (pow10_pos _)
          have z0 : (R A).2.1 * 10 ^ 0 / 10 ^ dg (R A).2.1 = 0 := by rw [Nat.pow_zero, Nat.mul_one]; exact Nat.div_eq_of_lt (dg_lt _)
          refine w_div268 (zp := zp) (us := dg (R C).2.1 + zn) (un := u') hG hl hR hM la (by omega) a1 hU hzp (by omega) (by omega) (fun g n f' c0 c1 c2 c3 => ?_) (dg (R A).2.1 + zp) 0 rw f0 0 (by omega) (Nat.le_refl _) ⟨hd, by rw [z0]; simp [tv], by rw [z0]; simp⟩ (fun j hj => by rw [b1 j hj]; decide) (by rw [z0, tv_z.mpr (fun j hj => b1 j (by omega))]; simp)
          obtain ⟨s1, s2⟩ := div_step ((R A).2.1 * 10 ^ zp) (tv u' (dg (R C).2.1 + zn)) 0 hU
          have hml := Nat.mod_lt ((R A).2.1 * 10 ^ zp) hU
          refine zm_go (okm_Mo_divide hG hl) [388] 200 ?_
          conv => whnf
          rw [show (0 : Int32) = nI 0 from rfl]
          refine k_nextFigure hG hl (by omega) a1 c2 (dn := 0) (by decide) (by rw [c3]; exact hml) (fun f2 d1 d2 => ?_)
          conv => whnf
          rw [c3] at d2 ⊢
          have hd10 : ((R A).2.1 * 10 ^ zp % tv u' (dg (R C).2.1 + zn) * 10 + 0) / tv u' (dg (R C).2.1 + zn) < 10 := by
            rw [Nat.div_lt_iff_lt_mul hU]
            omega
          refine k_append hG hl (by omega) c1 hd10 (fun g2 n2 e1 e2 => ?_)
          rw [← s1] at e1
          rw [← s2] at d2
          have hP : (R A).2.1 * 10 ^ zp * 10 + 0 = (R A).2.1 * 10 ^ (zp + 1) := by rw [Nat.pow_succ, ← Nat.mul_assoc, Nat.add_zero]
          rw [hP, a2, m1] at e1
          rw [hP, a2] at d2
          conv => whnf
          refine k_isLeft hG hl (by omega) d1 ?_
          rw [d2, m2]
          conv => whnf
          refine ⟨(qL (R A).2.1 (R C).2.1 (R A).2.2 (s + 1 + (R C).2.2)), rfl, ?_⟩
          conv => whnf
          rw [iI_l rs, e1s]
          obtain ⟨e3, e4, e5⟩ := e1
          by_cases en : n2 = 0
          · subst en
            refine ⟨fun z => absurd rfl z, fun _ => ?_⟩
            conv => whnf
            refine ⟨0, rfl, by omega, ?_⟩
            conv => whnf
            refine ⟨?_, trivial⟩
            try dsimp only
            rw [show (0 : Int32) = nI 0 from rfl]
            rw [upd_nI]
            exact w_div388 (sz := 1) (rw := zu g2 0 0) hG hl hR hM lt lm hs1 hs2 (by decide) (by decide) (zu_lt e3 (by decide)) rfl rfl rfl rfl (by rw [← e4]; show 0 * 10 + zu g2 0 0 0 = 0; rw [zu_s]) rfl hq
          · refine ⟨fun _ => ?_, fun z => absurd ((nI_z (by omega)).mp z) en⟩
            conv => whnf
            refine ⟨?_, trivial⟩
            try dsimp only
            exact w_div388 (sz := n2) (rw := g2) hG hl hR hM lt lm hs1 hs2 (by omega) (by omega) e3 rfl rfl rfl rfl e4 rfl hq
        refine zm_go (okm_Mo_divide hG hl) [258] 200 ?_
        conv => whnf
        by_cases hz : 0 ≤ s + (R C).2.2 - (R A).2.2
        · refine ⟨fun _ => ?_, fun z => absurd ((lg_cmp_ge _ _).mpr ((lI_le (a := 0) ⟨by decide, by decide⟩ ⟨by omega, by omega⟩).mpr hz)) z⟩
          conv => whnf
          refine ⟨?_, trivial⟩
          try dsimp only
          exact body 0 _ (by omega) rfl
        · refine ⟨fun z => absurd ((lI_le (a := 0) ⟨by decide, by decide⟩ ⟨by omega, by omega⟩).mp ((lg_cmp_ge _ _).mp z)) hz, fun _ => ?_⟩
          conv => whnf
          refine ⟨?_, trivial⟩
          try dsimp only
          rw [lI_neg, lI_i]
          have := body (-(s + (R C).2.2 - (R A).2.2)).toNat _ rfl rfl
          rw [iI_nI (-(s + (R C).2.2 - (R A).2.2)).toNat, show (((-(s + (R C).2.2 - (R A).2.2)).toNat : Nat) : Int) = -(s + (R C).2.2 - (R A).2.2) by omega] at this
          exact this
      · refine ⟨fun z => absurd ((lI_le (a := -1) ⟨by decide, by decide⟩ rF).mp ((lg_cmp_ge _ _).mp z)) sml, fun _ => ?_⟩
        refine ⟨?_, trivial⟩
        try dsimp only
        obtain ⟨q1, q2⟩ := q_small (x := R A) (y := R C) (s := s) ez hC (by omega)
        refine zm_go (okm_Mo_divide hG hl) [388] 200 ?_
        conv => whnf
        refine k_isZero hG hl hM la ?_
        rw [decide_eq_false ez]
        conv => whnf
        refine ⟨fun z => absurd rfl z, fun _ => ?_⟩
        conv => whnf
        refine ⟨true, rfl, ?_⟩
        conv => whnf
        refine ⟨0, rfl, by omega, ?_⟩
        conv => whnf
        refine ⟨?_, trivial⟩
        try dsimp only
        rw [show (0 : Int32) = nI 0 from rfl, iI_l rs, e1s]
        rw [upd_nI]
        exact w_div388 (sz := 1) (rw := zu rw 0 0) (mo := true) hG hl hR hM lt lm hs1 hs2 (by decide) (by decide) (zu_lt hd (by decide)) rfl rfl rfl rfl (by rw [q1]; show 0 * 10 + zu rw 0 0 0 = 0; rw [zu_s]) q2.symm hq
    · refine ⟨fun z => absurd ((lI_le (b := 1000) rF ⟨by decide, by decide⟩).mp ((lg_cmp_le _ _).mp z)) big, fun _ => ?_⟩
      conv => whnf
      exact ⟨hq.2 (q_big ez hC (by omega) ra) _ _ _ _ _ _ _ _ _ _ _ hd, trivial⟩
theorem k_divide (hG : zd_G B) (hl : l.stackTraces = false) {R : Nat → zr} (hR : ROk R) (hM : MR R K Mn Mi Sc) {a b to s md : Int} (ha : iR a) (hb2 : iR b) (hto : iR to) (hs : iR s) (hmd : iR md) (hd : ∀ i, rw i < 10)
    (hb : ((a < 0 ∨ 10 ≤ a) ∨ (b < 0 ∨ 10 ≤ b) ∨ (to < 0 ∨ 10 ≤ to) ∨ (md < 0 ∨ 8 ≤ md) ∨ s < -10000 ∨ 10000 < s) → Q none (mS (1) ln sz sc mo be ts us lz pr fa D K Mn Mi Sc rw tp un lf pa))
    (hz : ¬ ((a < 0 ∨ 10 ≤ a) ∨ (b < 0 ∨ 10 ≤ b) ∨ (to < 0 ∨ 10 ≤ to) ∨ (md < 0 ∨ 8 ≤ md) ∨ s < -10000 ∨ 10000 < s) → ∀ C : Nat, b = C → (R C).2.1 = 0 → Q none (mS (2) ln sz sc mo be ts us lz pr fa D K Mn Mi Sc rw tp un lf pa))
    (hq : ∀ A C T M : Nat, a = A → b = C → to = T → md = M → A < 10 → C < 10 → T < 10 → M < 8 → -10000 ≤ s → s ≤ 10000 → (R C).2.1 ≠ 0 → Res Q R T 0 ln pr 2 D pa K Mn Mi Sc ((R A).1 != (R C).1) (sp_div (R A) (R C) s M)) : zm_M l B gM m_Mo_divide [.ref 53, .int (iI a), .int (iI b), .int (iI to), .int (iI s), .int (iI md)] (mS t ln sz sc mo be ts us lz pr fa D K Mn Mi Sc rw tp un lf pa) Q := by
  have bad : ((a < 0 ∨ 10 ≤ a) ∨ (b < 0 ∨ 10 ≤ b) ∨ (to < 0 ∨ 10 ≤ to) ∨ (md < 0 ∨ 8 ≤ md) ∨ s < -10000 ∨ 10000 < s) → zm_W l B gM m_Mo_divide 46 [some (.ref 53), some (.int (iI a)), some (.int (iI b)), some (.int (iI to)), some (.int (iI s)), some (.int (iI md)), none, none, none, none, none, none] [.ref 53] (mS t ln sz sc mo be ts us lz pr fa D K Mn Mi Sc rw tp un lf pa) Q := by
    intro hc
    refine zm_go (okm_Mo_divide hG hl) [] 200 ?_
    conv => whnf
    refine ⟨fun z => absurd z (by decide), fun _ => ?_⟩
    conv => whnf
    exact ⟨hb hc, trivial⟩
  refine zm_go (okm_Mo_divide hG hl) [46, 140] 200 ?_
  conv => whnf
  refine k_no hG hl ha ?_
  by_cases ca : a < 0 ∨ 10 ≤ a
  · rw [decide_eq_true ca]
    conv => whnf
    refine ⟨fun _ => ?_, fun z => absurd z (by decide)⟩
    refine ⟨?_, trivial⟩
    try dsimp only
    exact bad (Or.inl ca)
  · rw [decide_eq_false ca]
    conv => whnf
    refine ⟨fun z => absurd rfl z, fun _ => ?_⟩
    conv => whnf
    refine k_no hG hl hb2 ?_
    by_cases cb : b < 0 ∨ 10 ≤ b
    · rw [decide_eq_true cb]
      conv => whnf
      refine ⟨fun _ => ?_, fun z => absurd z (by decide)⟩
      refine ⟨?_, trivial⟩
      try dsimp only
      exact bad (Or.inr (Or.inl cb))
    · rw [decide_eq_false cb]
      conv => whnf
      refine ⟨fun z => absurd rfl z, fun _ => ?_⟩
      conv => whnf
      refine k_no hG hl hto ?_
      by_cases cto : to < 0 ∨ 10 ≤ to
      · rw [decide_eq_true cto]
        conv => whnf
        refine ⟨fun _ => ?_, fun z => absurd z (by decide)⟩
        refine ⟨?_, trivial⟩
        try dsimp only
        exact bad (Or.inr (Or.inr (Or.inl cto)))
      · rw [decide_eq_false cto]
        conv => whnf
        refine ⟨fun z => absurd rfl z, fun _ => ?_⟩
        conv => whnf
        refine k_noMode hG hl hmd ?_
        by_cases cmd : md < 0 ∨ 8 ≤ md
        · rw [decide_eq_true cmd]
          conv => whnf
          refine ⟨fun _ => ?_, fun z => absurd z (by decide)⟩
          refine ⟨?_, trivial⟩
          try dsimp only
          exact bad (Or.inr (Or.inr (Or.inr (Or.inl cmd))))
        · rw [decide_eq_false cmd]
          conv => whnf
          refine ⟨fun z => absurd rfl z, fun _ => ?_⟩
          conv => whnf
          by_cases c1 : s < -10000
          · refine ⟨fun _ => ?_, fun z => absurd ((iI_lt (b := -10000) hs ⟨by decide, by decide⟩).mpr c1) z⟩
            refine ⟨?_, trivial⟩
            try dsimp only
            exact bad (Or.inr (Or.inr (Or.inr (Or.inr (Or.inl c1)))))
          · refine ⟨fun z => absurd ((iI_lt (b := -10000) hs ⟨by decide, by decide⟩).mp (by rw [← i32m]; exact z)) c1, fun _ => ?_⟩
            conv => whnf
            by_cases c2 : 10000 < s
            · refine ⟨fun z => absurd ((iI_le (b := 10000) hs ⟨by decide, by decide⟩).mp z) (by omega), fun _ => ?_⟩
              refine ⟨?_, trivial⟩
              try dsimp only
              exact bad (Or.inr (Or.inr (Or.inr (Or.inr (Or.inr c2)))))
            · refine ⟨fun _ => ?_, fun z => absurd ((iI_le (b := 10000) hs ⟨by decide, by decide⟩).mpr (by omega)) z⟩
              conv => whnf
              obtain ⟨A, ea, la⟩ := iI_of_nat ca
              obtain ⟨C, eb, lb⟩ := iI_of_nat cb
              obtain ⟨T, et, lt⟩ := iI_of_nat cto
              obtain ⟨M, em, lm⟩ := iI_of_nat8 cmd
              have hzz := hz (by omega) C eb
              have hqq := hq A C T M ea eb et em la lb lt lm (by omega) (by omega)
              subst ea
              subst eb
              subst et
              subst em
              rw [← iI_nI, ← iI_nI, ← iI_nI, ← iI_nI]
              obtain ⟨ma, ka, na, sa⟩ := hM.2 A la
              obtain ⟨mb, kb, nb, sb⟩ := hM.2 C lb
              obtain ⟨ra, ra2, ra3, -⟩ := hR A la
              obtain ⟨rb, rb2, rb3, -⟩ := hR C lb
              refine k_isZero hG hl hM lb ?_
              conv => whnf
              by_cases ez : (R C).2.1 = 0
              · rw [decide_eq_true ez]
                refine ⟨fun z => absurd z (by decide), fun _ => ?_⟩
                conv => whnf
                refine ⟨fun z => absurd z (by decide), fun _ => ?_⟩
                conv => whnf
                exact ⟨hzz ez, trivial⟩
              · rw [decide_eq_false ez]
                refine ⟨fun _ => ?_, fun z => absurd rfl z⟩
                conv => whnf
                refine ⟨fun _ => ?_, fun z => absurd (by decide) z⟩
                conv => whnf
                have w := w_div140 (Q := Q) (t := 0) (ln := ln) (sz := sz) (sc := sc) (mo := mo) (be := be) (ts := ts) (us := us) (lz := lz) (pr := pr) (fa := 2) (D := D) (tp := tp) (un := un) (lf := lf) (pa := pa) hG hl hR hM la lb lt lm (by omega) (by omega) hd ez rfl rfl (hqq ez)
                refine ⟨C, rfl, by omega, ?_⟩
                conv => whnf
                refine ⟨A, rfl, by omega, ?_⟩
                conv => whnf
                refine ⟨A, rfl, by omega, ?_⟩
                conv => whnf
                refine ⟨C, rfl, by omega, ?_⟩
                conv => whnf
                refine ⟨A, rfl, by omega, ?_⟩
                conv => whnf
                refine ⟨C, rfl, by omega, ?_⟩
                conv => whnf
                dsimp only
                rw [iI_l hs, sa, sb, ma, mb, na, nb, iI_l ⟨by omega, by omega⟩, iI_l ⟨by omega, by omega⟩, lI_add, lI_sub, iI_nI (dg (R A).2.1), iI_nI (dg (R C).2.1), iI_sub, iI_l ⟨by omega, by omega⟩, lI_add]
                cases h1 : (R A).1 <;> cases h2 : (R C).1 <;> rw [h1, h2] at w
                · refine ⟨fun _ => ?_, fun z => absurd rfl z⟩
                  conv => whnf
                  refine ⟨?_, trivial⟩
                  try dsimp only
                  exact w
                · refine ⟨fun z => absurd z (by decide), fun _ => ?_⟩
                  conv => whnf
                  refine ⟨?_, trivial⟩
                  try dsimp only
                  exact w
                · refine ⟨fun z => absurd z (by decide), fun _ => ?_⟩
                  conv => whnf
                  refine ⟨?_, trivial⟩
                  try dsimp only
                  exact w
                · refine ⟨fun _ => ?_, fun z => absurd rfl z⟩
                  conv => whnf
                  refine ⟨?_, trivial⟩
                  try dsimp only
                  exact w
end KO

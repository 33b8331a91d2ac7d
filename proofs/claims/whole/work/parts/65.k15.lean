/-! the model: quotient -/
def sp_quo (x y : zr) (P md : Nat) : Option (Nat × Int) :=
  fit (if P = 0 then 1000 else P) (x.2.2 - y.2.2) (if P = 0 then 7 else md) (x.1 != y.1) (qV x.2.1 y.2.1 (x.2.2 - y.2.2) (x.2.2 - y.2.2 + (if P = 0 then 1000 else P : Nat) + 1 - dg x.2.1 + dg y.2.1)) (x.2.2 - y.2.2 + (if P = 0 then 1000 else P : Nat) + 1 - dg x.2.1 + dg y.2.1) (qL x.2.1 y.2.1 (x.2.2 - y.2.2) (x.2.2 - y.2.2 + (if P = 0 then 1000 else P : Nat) + 1 - dg x.2.1 + dg y.2.1))
/-- so many digits at least -/
theorem q_dg {N M E : Nat} {s t : Int} (hN : N ≠ 0) (hM : M ≠ 0) (h : (E : Int) + dg M ≤ dg N + (t - s)) : E ≤ dg (qV N M s t) := by
  have a1 := dg_ge N (by omega)
  have b1 := dg_lt M
  have c1 := dg_pos M
  have c2 := dg_pos N
  rcases Nat.eq_zero_or_pos E with e | e
  · omega
  · have hq : 10 ^ (E - 1) ≤ qV N M s t := by
      unfold qV
      rw [Nat.le_div_iff_mul_le (Nat.mul_pos (by omega) (pow10_pos _))]
      have e1 : 10 ^ (E - 1) * (M * 10 ^ (s - t).toNat) ≤ 10 ^ (E - 1) * (10 ^ dg M * 10 ^ (s - t).toNat) := Nat.mul_le_mul_left _ (Nat.mul_le_mul_right _ (Nat.le_of_lt b1))
      have e2 : 10 ^ (dg N - 1) * 10 ^ (t - s).toNat ≤ N * 10 ^ (t - s).toNat := Nat.mul_le_mul_right _ a1
      rw [← Nat.pow_add, ← Nat.pow_add] at e1
      rw [← Nat.pow_add] at e2
      have e3 : (10 : Nat) ^ (E - 1 + (dg M + (s - t).toNat)) ≤ 10 ^ (dg N - 1 + (t - s).toNat) := Nat.pow_le_pow_right (by decide) (by omega)
      omega
    have hpos := Nat.lt_of_lt_of_le (pow10_pos (E - 1)) hq
    have := dg_lt (qV N M s t)
    have : E - 1 < dg (qV N M s t) := pow_lt_cancel (by omega)
    omega
theorem q_zero {M : Nat} {s t : Int} : qV 0 M s t = 0 ∧ qL 0 M s t = false := by
  unfold qV qL
  simp
theorem q_at {N M j : Nat} {s : Int} : qV N M s (s + j) = N * 10 ^ j / M ∧ qL N M s (s + j) = decide (N * 10 ^ j % M ≠ 0) := by
  unfold qV qL
  rw [show (s + j - s).toNat = j by omega, show (s - (s + (j : Int))).toNat = 0 by omega, Nat.pow_zero, Nat.mul_one]
  exact ⟨rfl, rfl⟩
/-- the model's way to the same -/
theorem quo_same {x y : zr} {P md j : Nat} (hy : y.2.1 ≠ 0) (h1 : x.2.1 * 10 ^ j / y.2.1 ≠ 0 ∨ x.2.1 * 10 ^ j % y.2.1 = 0) (h2 : x.2.1 * 10 ^ j % y.2.1 = 0 ∨ (if P = 0 then 1000 else P) + 1 ≤ dg (x.2.1 * 10 ^ j / y.2.1)) :
    sp_quo x y P md = fit (if P = 0 then 1000 else P) (x.2.2 - y.2.2) (if P = 0 then 7 else md) (x.1 != y.1) (x.2.1 * 10 ^ j / y.2.1) (x.2.2 - y.2.2 + j) (decide (x.2.1 * 10 ^ j % y.2.1 ≠ 0)) := by
  obtain ⟨e1, e2⟩ := q_at (N := x.2.1) (M := y.2.1) (j := j) (s := x.2.2 - y.2.2)
  rw [← e1, ← e2]
  unfold sp_quo
  have hp : 1 ≤ (if P = 0 then 1000 else P) := by split <;> omega
  have z1 : qL x.2.1 y.2.1 (x.2.2 - y.2.2) (x.2.2 - y.2.2 + j) = false ↔ x.2.1 * 10 ^ j % y.2.1 = 0 := by rw [e2]; simp
  refine fit_str (qStr x.2.1 y.2.1 (x.2.2 - y.2.2)) hp ?_ ?_ ?_ ?_
  · by_cases hx : x.2.1 = 0
    · rw [hx]; exact Or.inr q_zero.2
    · have := q_dg (E := (if P = 0 then 1000 else P) + 1) (s := x.2.2 - y.2.2) (t := x.2.2 - y.2.2 + (if P = 0 then 1000 else P : Nat) + 1 - dg x.2.1 + dg y.2.1) hx hy (by omega)
      refine Or.inl (fun q => ?_)
      rw [q, dg_0] at this
      omega
  · by_cases hx : x.2.1 = 0
    · rw [hx]; exact Or.inl q_zero.2
    · exact Or.inr (q_dg (E := (if P = 0 then 1000 else P) + 1) (s := x.2.2 - y.2.2) (t := x.2.2 - y.2.2 + (if P = 0 then 1000 else P : Nat) + 1 - dg x.2.1 + dg y.2.1) hx hy (by omega))
  · rw [z1, e1]; exact h1
  · rw [z1, e1]; exact h2
section KP
variable {l : Launch} {B : zd_B} {Q : Option Value → zst → Prop} {t ln sz : Nat} {sc : Int} {mo be : Bool} {ts us lz pr fa : Nat} {D K Mn : Nat → Nat} {Mi : Nat → Bool} {Sc : Nat → Int} {rw tp un lf pa : Nat → Nat}
theorem w_quo254 (hG : zd_G B) (hl : l.stackTraces = false) {R : Nat → zr} (hR : ROk R) (hM : MR R K Mn Mi Sc) {A C T M P j : Nat} {wi : Int} {en : Int32} {x9 : Option Value} (la : A < 10) (lb : C < 10) (lt : T < 10) (lm : M < 8) (lp : P ≤ 1000) (hsz : 1 ≤ sz) (hsz2 : sz ≤ 3300) (hd : ∀ i, rw i < 10) (hC : (R C).2.1 ≠ 0) (ht : t = 0) (hfa : fa = 2) (hwi : wi = (R A).2.2 - (R C).2.2) (hsc : sc = wi + j) (hj : j ≤ 3000) (hbe : be = ((R A).1 != (R C).1)) (htop : tv rw sz ≠ 0 → rw 0 ≠ 0)
    (hv : tv rw sz = (R A).2.1 * 10 ^ j / (R C).2.1) (hmo : mo = decide ((R A).2.1 * 10 ^ j % (R C).2.1 ≠ 0)) (hbig : mo = false ∨ (if P = 0 then 1000 else P) + 1 ≤ dg (tv rw sz)) (hbig2 : tv rw sz ≠ 0 ∨ mo = false)
    (hq : Res Q R T 0 ln pr 2 D pa K Mn Mi Sc ((R A).1 != (R C).1) (sp_quo (R A) (R C) P M)) : zm_W l B gM m_Mo_quotient 254 [some (.ref 53), some (.int (nI A)), some (.int (nI C)), some (.int (nI T)), some (.int (nI P)), some (.int (nI M)), some (.long (lI wi)), none, some (.int en), x9, none, none] [] (mS t ln sz sc mo be ts us lz pr fa D K Mn Mi Sc rw tp un lf pa) Q := by
  obtain ⟨ra, ra2, ra3, -⟩ := hR A la
  obtain ⟨rb, rb2, rb3, -⟩ := hR C lb
  subst ht
  subst hfa
  have hz1 : mo = false ↔ (R A).2.1 * 10 ^ j % (R C).2.1 = 0 := by rw [hmo]; simp
  have sm := quo_same (x := R A) (y := R C) (P := P) (md := M) (j := j) hC (by rw [← hv, ← hz1]; exact hbig2) (by rw [← hv, ← hz1]; exact hbig)
  rw [sm, ← hv, ← hmo, ← hwi, ← hsc, ← hbe] at hq
  have h0 := hd 0
  refine zm_go (okm_Mo_quotient hG hl) [302, 372] 200 ?_
  conv => whnf
  by_cases hP : P = 0
  · rw [if_pos hP, if_pos hP] at hq
    rw [if_pos hP] at hbig
    have hdl : tv rw sz ≠ 0 → sc - tz (tv rw sz) < wi → mo = false → dg (tv rw sz / 10 ^ tz (tv rw sz) * 10 ^ (wi - (sc - tz (tv rw sz))).toNat) ≤ 1000 := fun hV0 hlt hm => by
      have htz := tz_lt_dg hV0
      obtain ⟨c1, c2⟩ := tz_core hV0
      have hex : (R A).2.1 * 10 ^ j = tv rw sz * (R C).2.1 := by
        have := Nat.div_add_mod ((R A).2.1 * 10 ^ j) (R C).2.1
        rw [hz1.mp hm, ← hv, Nat.add_zero, Nat.mul_comm] at this
        exact this.symm
      have e1 : tv rw sz / 10 ^ tz (tv rw sz) * 10 ^ (wi - (sc - tz (tv rw sz))).toNat * (R C).2.1 = (R A).2.1 := by
        apply Nat.eq_of_mul_eq_mul_right (pow10_pos j)
        rw [hex]
        conv => rhs; rw [← c1]
        rw [Nat.mul_right_comm _ (R C).2.1, Nat.mul_assoc _ _ (10 ^ j), ← Nat.pow_add, show (wi - (sc - tz (tv rw sz))).toNat + j = tz (tv rw sz) by omega]
      refine Nat.le_trans (dg_mono ?_) ra
      rw [← e1]
      exact Nat.le_mul_of_pos_right _ (by omega)
    have hX := fit_X (wish := wi) (neg := be) (V := tv rw sz) (s := sc) (more := mo) hbig2 hbig hdl
    have hq2 := hq.congr hX.symm
    unfold fitX at hq2
    subst hP
    refine ⟨fun _ => ?_, fun z => absurd (by decide) z⟩
    conv => whnf
    have sto : ∀ (g' : Nat → Nat) (n : Nat) (s' : Int) (x9 x10 : Option Value), n ≤ 4400 → (∀ i, g' i < 10) → (-4000000000000 < s' ∧ s' < 4000000000000) → Res Q R T 0 ln pr 2 D pa K Mn Mi Sc be (some (tv g' n, s')) → zm_W l B gM m_Mo_quotient 372 [some (.ref 53), some (.int (nI A)), some (.int (nI C)), some (.int (nI T)), some (.int (nI 0)), some (.int (nI M)), some (.long (lI wi)), none, some (.int en), x9, x10, none] [] (mS (0) ln (n) (s') mo be ts us lz pr (2) D K Mn Mi Sc (g') tp un lf pa) Q := by
      intro g' n s' x9 x10 q1 q2 q3 q4
      refine zm_go (okm_Mo_quotient hG hl) [] 200 ?_
      conv => whnf
      refine k_storeA hG hl hR hM lt q1 q2 q3 (q4.imp (fun m hm => ?_))
      conv => whnf
      exact ⟨hm, trivial⟩
    clear hX hq sm hbig hbig2 hmo
    cases mo
    · have hm0 : false = false := rfl
      rw [if_neg (by decide)] at hq2
      refine ⟨fun _ => ?_, fun z => absurd rfl z⟩
      conv => whnf
      refine ⟨0, rfl, by omega, ?_⟩
      conv => whnf
      by_cases ez : tv rw sz = 0
      · rw [if_pos ez] at hq2
        have r0z : rw 0 = 0 := tv_z.mp ez 0 (by omega)
        refine ⟨fun z => absurd ((nI_z (by omega)).mpr r0z) z, fun _ => ?_⟩
        conv => whnf
        refine ⟨?_, trivial⟩
        try dsimp only
        refine sto rw sz wi _ _ (by omega) hd (by omega) ?_
        rw [ez]
        exact hq2
      · rw [if_neg ez] at hq2
        refine ⟨fun _ => ?_, fun z => absurd ((nI_z (by omega)).mp z) (htop ez)⟩
        refine ⟨?_, trivial⟩
        try dsimp only
        have htz := tz_lt_dg ez
        have hdz : dg (tv rw sz) = sz := tv_dg (by omega) (fun i _ => hd i) (htop ez)
        refine zm_go (okm_Mo_quotient hG hl) [369, 372] 200 ?_
        conv => whnf
        refine k_needed hG hl (by omega) hd ez ?_
        conv => whnf
        rw [nI_sub (a := sz) (b := sz - tz (tv rw sz)) (by omega), show sz - (sz - tz (tv rw sz)) = tz (tv rw sz) by omega, iI_nI (tz (tv rw sz)), iI_l ⟨by omega, by omega⟩, lI_sub, lI_sub]
        have lng : ∀ zn : Nat, zn = (wi - (sc - tz (tv rw sz))).toNat → zn ≤ 1000 → zm_W l B gM m_Mo_quotient 369 [some (.ref 53), some (.int (nI A)), some (.int (nI C)), some (.int (nI T)), some (.int (nI 0)), some (.int (nI M)), some (.long (lI wi)), none, some (.int en), some (.int (nI (sz - tz (tv rw sz)))), some (.long (lI (wi - (sc - tz (tv rw sz))))), none] [.long (lI zn), .ref 53] (mS (0) ln (sz - tz (tv rw sz)) (sc - tz (tv rw sz)) (false) be ts us lz pr (2) D K Mn Mi Sc rw tp un lf pa) Q := by
          intro zn hzn hz2
          refine zm_go (okm_Mo_quotient hG hl) [372] 200 ?_
          conv => whnf
          refine k_lengthen hG hl (by omega) hd (by omega) (fun g' b1 b2 => ?_)
          conv => whnf
          refine ⟨?_, trivial⟩
          try dsimp only
          refine sto g' _ _ _ _ (by omega) b1 (by omega) ?_
          rw [b2, tv_cutpre hd (n := sz) (by omega), show sz - (sz - tz (tv rw sz)) = tz (tv rw sz) by omega, hzn]
          exact hq2
        have hle : wi - (sc - tz (tv rw sz)) ≤ 1000 := by
          by_cases hlt : sc - tz (tv rw sz) < wi
          · have h9 := hdl ez hlt rfl
            have c3 : tv rw sz / 10 ^ tz (tv rw sz) ≠ 0 := fun q => (tz_core ez).2 (by rw [q])
            rw [dg_mul_pow c3] at h9
            omega
          · omega
        refine ⟨fun _ => ?_, fun z => absurd ((lg_cmp_le _ _).mpr ((lI_le (b := 1000) ⟨by omega, by omega⟩ ⟨by decide, by decide⟩).mpr hle)) z⟩
        conv => whnf
        by_cases hz : 0 ≤ wi - (sc - tz (tv rw sz))
        · refine ⟨fun _ => ?_, fun z => absurd ((lg_cmp_ge _ _).mpr ((lI_le (a := 0) ⟨by decide, by decide⟩ ⟨by omega, by omega⟩).mpr hz)) z⟩
          conv => whnf
          refine ⟨?_, trivial⟩
          try dsimp only
          have := lng _ rfl (by omega)
          rw [show (((wi - (sc - tz (tv rw sz))).toNat : Nat) : Int) = wi - (sc - tz (tv rw sz)) by omega] at this
          exact this
        · refine ⟨fun z => absurd ((lI_le (a := 0) ⟨by decide, by decide⟩ ⟨by omega, by omega⟩).mp ((lg_cmp_ge _ _).mp z)) hz, fun _ => ?_⟩
          conv => whnf
          refine ⟨?_, trivial⟩
          try dsimp only
          exact lng 0 (by omega) (by omega)
    · rw [if_pos rfl] at hq2
      refine ⟨fun z => absurd z (by decide), fun _ => ?_⟩
      conv => whnf
      exact ⟨hq2.2 rfl _ _ _ _ _ _ _ _ _ _ _ hd, trivial⟩
  · rw [if_neg hP, if_neg hP] at hq
    rw [if_neg hP] at hbig
    rw [fit_M (by omega) hbig2 hbig] at hq
    refine ⟨fun z => absurd z (nI_nle (by omega) (by omega)), fun _ => ?_⟩
    conv => whnf
    refine k_toPrecision hG hl hR hM lt lm (by omega) lp (by omega) hd (by omega) (by omega) hbig2 hbig ?_
    refine hq.imp (fun m hm => ?_)
    conv => whnf
    exact ⟨hm, trivial⟩
end KP

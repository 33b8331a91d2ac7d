/-! the desk: divide, quotient -/
theorem qV_shift {N M : Nat} {s t k : Int} : qV N M (s - k) (t - k) = qV N M s t ∧ qL N M (s - k) (t - k) = qL N M s t := by
  unfold qV qL
  rw [show t - k - (s - k) = t - s by omega, show s - k - (t - k) = s - t by omega]
  exact ⟨rfl, rfl⟩
section LE
variable {l : Launch} {B : zd_B} {Q : Option Value ⊕ Nat → zx → Prop} {R : Nat → zr} {r : Int32 × Int32 × Int32} {v o c : Option Nat} {st : zx}
theorem j_divideRough (hG : zd_G B) (hl : l.stackTraces = false) {C V : Nat} {s w : Int} {ng : Bool} (hC : C < 10) (hy : (R C).2.1 ≠ 0) (hV : dg V ≤ 1000) (hp : -100000 < w - s ∧ w - s < 100000)
    (hq : qV V (R C).2.1 s w < 10 ^ 2034 → Q (.inl none) (R, (bI (ng != (R C).1), iI (w - (R C).2.2), bI (qL V (R C).2.1 s w)), some (qV V (R C).2.1 s w), o, some (qV V (R C).2.1 s w)))
    (hx : V ≠ 0 → 2020 ≤ (dg V : Int) + (w - s) → ∀ r v c, Q (.inr 11) (R, r, v, o, c)) : zx_M l B m_De_divideRough [.ref 0, .ref (2 + 3 * C : Nat), .int (iI w)] (R, (bI ng, iI s, bI false), some V, o, c) Q := by
  have hcd := cut_div V (R C).2.1 s w
  have hV2 : V < 10 ^ 2034 := Nat.lt_of_lt_of_le (dg_lt V) (Nat.pow_le_pow_right (by decide) (by omega))
  refine zx_go (okx_De_divideRough hG hl) [62, 102] 200 ?_
  conv => whnf
  refine ⟨rc_46, ?_⟩
  refine j_cutTo hG hl hp (fun hr => ?_) (fun h1 h2 h3 => hx h1 (by omega) _ _ _)
  have hroom := cutV_room hr hV2
  rw [Bool.false_or]
  conv => whnf
  refine ⟨C, rfl, hC, ?_⟩
  conv => whnf
  refine ⟨rc_36, ?_⟩
  refine x_splitR hG hl hC hy ?_ (fun h1 h2 => ?_)
  · conv => whnf
    rw [hcd.1]
    generalize hVV : cutV V s w % (R C).2.1 = rest at *
    have hq := hq (Nat.lt_of_le_of_lt (by rw [← hcd.1]; exact Nat.div_le_self _ _) hroom)
    have main2 : ∀ lo : Bool, lo = qL V (R C).2.1 s w → zx_W l B m_De_divideRough 102 [some (.ref 0), some (.ref (2 + 3 * C : Nat)), some (.int (iI w))] [.int (bI (ng != (R C).1)), .ref 46] (R, (bI ng, iI w, bI lo), some (qV V (R C).2.1 s w), o, some (qV V (R C).2.1 s w)) Q := by
      intro lo e
      subst e
      refine zx_go (okx_De_divideRough hG hl) [] 200 ?_
      conv => whnf
      refine ⟨(ng != (R C).1), rfl, ?_⟩
      conv => whnf
      refine ⟨C, rfl, hC, ?_⟩
      conv => whnf
      rw [iI_sub]
      exact ⟨hq, trivial⟩
    have main : zx_W l B m_De_divideRough 62 [some (.ref 0), some (.ref (2 + 3 * C : Nat)), some (.int (iI w))] [.int (bI (qL V (R C).2.1 s w)), .ref 46] (R, (bI ng, iI w, bI (cutL V s w)), some rest, o, some (qV V (R C).2.1 s w)) Q := by
      refine zx_go (okx_De_divideRough hG hl) [102] 200 ?_
      conv => whnf
      refine ⟨(qL V (R C).2.1 s w), rfl, ?_⟩
      conv => whnf
      refine ⟨rc_47, ?_⟩
      refine x_copy47_51 hG hl ?_
      conv => whnf
      refine ⟨C, rfl, hC, ?_⟩
      conv => whnf
      refine ⟨fun z => ?_, fun z => ?_⟩
      · have e : (ng != (R C).1) = false := by rw [bI_inj z]; exact bne_self_eq_false _
        have := main2 _ rfl
        rw [e] at this
        conv => whnf
        refine ⟨?_, trivial⟩
        try dsimp only
        exact this
      · have e : (ng != (R C).1) = true := bne_iff_ne.mpr (fun q => z (by rw [q]))
        have := main2 _ rfl
        rw [e] at this
        conv => whnf
        refine ⟨?_, trivial⟩
        try dsimp only
        exact this
    rw [← hcd.2] at main
    cases hL : cutL V s w
    · rw [hL, Bool.false_or] at main
      refine ⟨fun z => absurd rfl z, fun _ => ?_⟩
      conv => whnf
      refine ⟨rc_47, ?_⟩
      refine x_isZero47 hG hl ?_
      conv => whnf
      by_cases h0 : rest = 0
      · rw [decide_eq_false (fun q => q h0)] at main
        rw [decide_eq_true h0]
        refine ⟨fun _ => ?_, fun z => absurd z (show ¬ bI true = 0 by decide)⟩
        conv => whnf
        refine ⟨?_, trivial⟩
        try dsimp only
        exact main
      · rw [decide_eq_true h0] at main
        rw [decide_eq_false h0]
        refine ⟨fun z => absurd rfl z, fun _ => ?_⟩
        conv => whnf
        refine ⟨?_, trivial⟩
        try dsimp only
        exact main
    · rw [hL, Bool.true_or] at main
      refine ⟨fun _ => ?_, fun z => absurd z (show ¬ bI true = 0 by decide)⟩
      conv => whnf
      refine ⟨?_, trivial⟩
      try dsimp only
      exact main
  · have k := nl_226 h2
    have hV0 : V ≠ 0 := fun q => by
      subst q
      have : cutV 0 s w = 0 := by unfold cutV; simp
      rw [this, dg_0] at k
      omega
    rcases Int.le_total w s with q | q
    · rw [(cutV_dn q).1] at k
      have := dg_mono (Nat.div_le_self V (10 ^ (s - w).toNat))
      omega
    · rw [(cutV_up q).1, dg_mul_pow hV0] at k
      exact hx hV0 (by omega) _ _ _
theorem j_divide (hG : zd_G B) (hl : l.stackTraces = false) (hR : ROk R) {a b to s md : Int} (ha : iR a) (hb2 : iR b) (hto : iR to) (hs : iR s) (hmd : iR md)
    (hb : ((a < 0 ∨ 10 ≤ a) ∨ (b < 0 ∨ 10 ≤ b) ∨ (to < 0 ∨ 10 ≤ to) ∨ (md < 0 ∨ 8 ≤ md) ∨ s < -10000 ∨ 10000 < s) → Q (.inr 9) (R, r, v, o, c))
    (hz : ¬ ((a < 0 ∨ 10 ≤ a) ∨ (b < 0 ∨ 10 ≤ b) ∨ (to < 0 ∨ 10 ≤ to) ∨ (md < 0 ∨ 8 ≤ md) ∨ s < -10000 ∨ 10000 < s) → ∀ C : Nat, b = C → (R C).2.1 = 0 → Q (.inr 11) (R, r, v, o, c))
    (hq : ∀ A C T M : Nat, a = A → b = C → to = T → md = M → A < 10 → C < 10 → T < 10 → M < 8 → -10000 ≤ s → s ≤ 10000 → (R C).2.1 ≠ 0 → Cres Q R T ((R A).1 != (R C).1) (sp_div (R A) (R C) s M)) : zx_M l B m_De_divide [.ref 0, .int (iI a), .int (iI b), .int (iI to), .int (iI s), .int (iI md)] (R, r, v, o, c) Q := by
  refine zx_go (okx_De_divide hG hl) [] 200 ?_
  conv => whnf
  refine j_reg3 hG hl ha hb2 hto (fun c1 c2 c5 => ?_) (fun q => hb (by omega))
  conv => whnf
  refine j_mode hG hl hmd (fun c3 => ?_) (fun q => hb (by omega))
  conv => whnf
  refine j_wscale hG hl hs (fun s1 s2 => ?_) (fun q => hb (by omega))
  have hz' := hz (by omega)
  obtain ⟨A, rfl, hA⟩ := iI_of_nat c1
  obtain ⟨C, rfl, hC⟩ := iI_of_nat c2
  obtain ⟨T, rfl, hT⟩ := iI_of_nat c5
  obtain ⟨M, rfl, hM⟩ := iI_of_nat8 c3
  obtain ⟨a1, a2, a3, -⟩ := hR A hA
  obtain ⟨b1, b2, b3, -⟩ := hR C hC
  conv => whnf
  refine ⟨C, rfl, hC, ?_⟩
  conv => whnf
  refine j_divisor hG hl hC (fun hy => ?_) (fun hy => hz' C rfl hy)
  have hq := hq A C T M rfl rfl rfl rfl hA hC hT hM s1 s2 hy
  conv => whnf
  refine ⟨A, rfl, hA, ?_⟩
  conv => whnf
  refine ⟨rc_46, ?_⟩
  refine j_take hG hl hA ?_
  conv => whnf
  refine ⟨C, rfl, hC, ?_⟩
  conv => whnf
  dsimp only
  rw [show iI s + 1 + iI (R C).2.2 = iI (s + 1 + (R C).2.2) by rw [show iI s + 1 = iI (s + 1) from iI_add s 1, iI_add]]
  refine ⟨rc_0, ?_⟩
  refine j_divideRough hG hl hC hy a1 (by omega) (fun hroom => ?_) (fun h1 h2 r v c => hq.2 (q_big h1 hy (by omega) a1) _ _ _ _)
  conv => whnf
  refine ⟨rc_46, ?_⟩
  refine j_drop hG hl hM hroom (fun q e => ?_) (fun e r v => hq.2 ?_ _ _ _ _)
  · conv => whnf
    refine ⟨rc_0, ?_⟩
    rw [show s + 1 + (R C).2.2 - (R C).2.2 - 1 = s by omega]
    have hz : sp_div (R A) (R C) s M = some (q, s) := by
      unfold sp_div
      rw [e]
      rfl
    rw [hz] at hq
    exact j_keep hG hl hT hs (dg31 (lt_div10 hroom (rnd_le e))) (hq.imp (fun _ h => And.intro h trivial) (fun _ h => h))
  · unfold sp_div
    rw [e]
    rfl
theorem j_quotient (hG : zd_G B) (hl : l.stackTraces = false) (hR : ROk R) {a b to p md : Int} (ha : iR a) (hb2 : iR b) (hto : iR to) (hp : iR p) (hmd : iR md)
    (hb : ((a < 0 ∨ 10 ≤ a) ∨ (b < 0 ∨ 10 ≤ b) ∨ (to < 0 ∨ 10 ≤ to) ∨ (md < 0 ∨ 8 ≤ md) ∨ p < 0 ∨ 1000 < p) → Q (.inr 9) (R, r, v, o, c))
    (hz : ¬ ((a < 0 ∨ 10 ≤ a) ∨ (b < 0 ∨ 10 ≤ b) ∨ (to < 0 ∨ 10 ≤ to) ∨ (md < 0 ∨ 8 ≤ md) ∨ p < 0 ∨ 1000 < p) → ∀ C : Nat, b = C → (R C).2.1 = 0 → Q (.inr 11) (R, r, v, o, c))
    (hq : ∀ A C T P M : Nat, a = A → b = C → to = T → p = P → md = M → A < 10 → C < 10 → T < 10 → P ≤ 1000 → M < 8 → (R C).2.1 ≠ 0 → Cres Q R T ((R A).1 != (R C).1) (sp_quo (R A) (R C) P M)) : zx_M l B m_De_quotient [.ref 0, .int (iI a), .int (iI b), .int (iI to), .int (iI p), .int (iI md)] (R, r, v, o, c) Q := by
  refine zx_go (okx_De_quotient hG hl) [50] 200 ?_
  conv => whnf
  refine j_reg3 hG hl ha hb2 hto (fun c1 c2 c5 => ?_) (fun q => hb (by omega))
  conv => whnf
  refine j_mode hG hl hmd (fun c3 => ?_) (fun q => hb (by omega))
  conv => whnf
  refine j_prec hG hl hp (b := 0) ⟨by decide, by decide⟩ (fun c4 => ?_) (fun q => hb (by omega))
  have hz' := hz (by omega)
  obtain ⟨A, rfl, hA⟩ := iI_of_nat c1
  obtain ⟨C, rfl, hC⟩ := iI_of_nat c2
  obtain ⟨T, rfl, hT⟩ := iI_of_nat c5
  obtain ⟨M, rfl, hM⟩ := iI_of_nat8 c3
  obtain ⟨P, rfl, hP⟩ : ∃ P : Nat, p = P ∧ P ≤ 1000 := ⟨p.toNat, by omega, by omega⟩
  obtain ⟨a1, a2, a3, -⟩ := hR A hA
  obtain ⟨b1, b2, b3, -⟩ := hR C hC
  have da := dg_pos (R A).2.1
  have dc := dg_pos (R C).2.1
  conv => whnf
  refine ⟨A, rfl, hA, ?_⟩
  conv => whnf
  refine ⟨C, rfl, hC, ?_⟩
  conv => whnf
  refine j_divisor hG hl hC (fun hy => ?_) (fun hy => hz' C rfl hy)
  have hq := hq A C T P M rfl rfl rfl rfl rfl hA hC hT hP hM hy
  have main : ∀ (ex : Bool) (dig md' : Nat), 1 ≤ dig → dig ≤ 1000 → md' < 8 → (ex = true → dig = 1000 ∧ md' = 7) → (ex = false → dig = P ∧ md' = M) →
      Cres Q R T ((R A).1 != (R C).1) (fit dig ((R A).2.2 - (R C).2.2) md' ((R A).1 != (R C).1) (qV (R A).2.1 (R C).2.1 ((R A).2.2 - (R C).2.2) ((R A).2.2 - (R C).2.2 + dig + 1 - dg (R A).2.1 + dg (R C).2.1)) ((R A).2.2 - (R C).2.2 + dig + 1 - dg (R A).2.1 + dg (R C).2.1) (qL (R A).2.1 (R C).2.1 ((R A).2.2 - (R C).2.2) ((R A).2.2 - (R C).2.2 + dig + 1 - dg (R A).2.1 + dg (R C).2.1))) →
      zx_W l B m_De_quotient 50 [some (.ref 0), some (.int (iI A)), some (.int (iI C)), some (.int (iI T)), some (.int (iI P)), some (.int (iI M)), some (.ref (2 + 3 * A : Nat)), some (.ref (2 + 3 * C : Nat)), some (.int (bI ex)), none] [] (R, r, v, o, c) Q := by
    intro ex dig md' d1 d2 d3 e1 e2 hq
    have main2 : zx_W l B m_De_quotient 65 [some (.ref 0), some (.int (iI A)), some (.int (iI C)), some (.int (iI T)), some (.int (iI P)), some (.int (iI M)), some (.ref (2 + 3 * A : Nat)), some (.ref (2 + 3 * C : Nat)), some (.int (bI ex)), some (.int (nI dig))] [] (R, r, v, o, c) Q := by
      refine zx_go (okx_De_quotient hG hl) [137] 200 ?_
      conv => whnf
      refine ⟨rc_46, ?_⟩
      refine j_take hG hl hA ?_
      conv => whnf
      refine ⟨A, rfl, hA, ?_⟩
      conv => whnf
      refine ⟨A, rfl, hA, ?_⟩
      conv => whnf
      refine ⟨(rc_n hA), ?_⟩
      refine x_digitsR hG hl hA ?_
      conv => whnf
      refine ⟨C, rfl, hC, ?_⟩
      conv => whnf
      refine ⟨(rc_n hC), ?_⟩
      refine x_digitsR hG hl hC ?_
      conv => whnf
      rw [show iI (R A).2.2 + nI dig + 1 - nI (dg (R A).2.1) + nI (dg (R C).2.1) = iI ((R A).2.2 + dig + 1 - dg (R A).2.1 + dg (R C).2.1) by rw [iI_nI, iI_nI, iI_nI, show (1 : Int32) = iI 1 from rfl, iI_add, iI_add, iI_sub, iI_add]]
      refine ⟨rc_0, ?_⟩
      refine j_divideRough hG hl hC hy a1 (by omega) (fun hroom => ?_) (fun h1 h2 => by omega)
      have es := qV_shift (N := (R A).2.1) (M := (R C).2.1) (s := (R A).2.2) (t := (R A).2.2 + dig + 1 - dg (R A).2.1 + dg (R C).2.1) (k := (R C).2.2)
      rw [show (R A).2.2 + (dig : Int) + 1 - dg (R A).2.1 + dg (R C).2.1 - (R C).2.2 = (R A).2.2 - (R C).2.2 + dig + 1 - dg (R A).2.1 + dg (R C).2.1 by omega] at es ⊢
      rw [← es.1] at hroom
      rw [← es.1, ← es.2]
      have hne : qV (R A).2.1 (R C).2.1 ((R A).2.2 - (R C).2.2) ((R A).2.2 - (R C).2.2 + dig + 1 - dg (R A).2.1 + dg (R C).2.1) ≠ 0 ∨ qL (R A).2.1 (R C).2.1 ((R A).2.2 - (R C).2.2) ((R A).2.2 - (R C).2.2 + dig + 1 - dg (R A).2.1 + dg (R C).2.1) = false := by
        by_cases hx : (R A).2.1 = 0
        · rw [hx]; exact Or.inr q_zero.2
        · have := q_dg (E := dig + 1) (s := (R A).2.2 - (R C).2.2) (t := (R A).2.2 - (R C).2.2 + dig + 1 - dg (R A).2.1 + dg (R C).2.1) hx hy (by omega)
          refine Or.inl (fun q => ?_)
          rw [q, dg_0] at this
          omega
      generalize qV (R A).2.1 (R C).2.1 ((R A).2.2 - (R C).2.2) ((R A).2.2 - (R C).2.2 + dig + 1 - dg (R A).2.1 + dg (R C).2.1) = qq at *
      generalize qL (R A).2.1 (R C).2.1 ((R A).2.2 - (R C).2.2) ((R A).2.2 - (R C).2.2 + dig + 1 - dg (R A).2.1 + dg (R C).2.1) = ql at *
      have main3 : zx_W l B m_De_quotient 137 [some (.ref 0), some (.int (iI A)), some (.int (iI C)), some (.int (iI T)), some (.int (iI P)), some (.int (iI M)), some (.ref (2 + 3 * A : Nat)), some (.ref (2 + 3 * C : Nat)), some (.int (bI ex)), some (.int (nI dig))] [.int (nI md'), .int (iI ((R A).2.2 - (R C).2.2)), .int (nI dig), .ref 46] (R, (bI ((R A).1 != (R C).1), iI ((R A).2.2 - (R C).2.2 + dig + 1 - dg (R A).2.1 + dg (R C).2.1), bI ql), some qq, o, some qq) Q := by
        refine zx_go (okx_De_quotient hG hl) [] 200 ?_
        conv => whnf
        refine ⟨rc_46, ?_⟩
        refine j_fit hG hl d3 d1 d2 hroom hne (by omega) (by omega) (fun V' s' lo' e h1 h2 h3 => ?_) (fun e r v => hq.2 (by rw [e]; rfl) _ _ _ _)
        conv => whnf
        refine ⟨rc_0, ?_⟩
        rw [e] at hq
        exact j_keep hG hl hT ⟨by omega, by omega⟩ (dg31 h1) (hq.imp (fun _ h => And.intro h trivial) (fun _ h => h))
      conv => whnf
      refine ⟨A, rfl, hA, ?_⟩
      conv => whnf
      refine ⟨C, rfl, hC, ?_⟩
      conv => whnf
      dsimp only
      rw [iI_sub]
      cases ex
      · rw [(e2 rfl).2] at main3
        refine ⟨fun _ => ?_, fun z => absurd rfl z⟩
        conv => whnf
        refine ⟨?_, trivial⟩
        try dsimp only
        rw [← iI_nI M] at main3 ⊢
        exact main3
      · rw [(e1 rfl).2] at main3
        refine ⟨fun z => absurd z (show ¬ bI true = 0 by decide), fun _ => ?_⟩
        conv => whnf
        refine ⟨?_, trivial⟩
        try dsimp only
        exact main3
    refine zx_go (okx_De_quotient hG hl) [65] 200 ?_
    conv => whnf
    cases ex
    · rw [(e2 rfl).1] at main2
      refine ⟨fun _ => ?_, fun z => absurd rfl z⟩
      conv => whnf
      refine ⟨?_, trivial⟩
      try dsimp only
      rw [← iI_nI P] at main2 ⊢
      exact main2
    · rw [(e1 rfl).1] at main2
      refine ⟨fun z => absurd z (show ¬ bI true = 0 by decide), fun _ => ?_⟩
      conv => whnf
      refine ⟨?_, trivial⟩
      try dsimp only
      exact main2
  unfold sp_quo at hq
  conv => whnf
  by_cases h0 : P = 0
  · subst h0
    rw [if_pos rfl, if_pos rfl] at hq
    refine ⟨fun z => absurd rfl z, fun _ => ?_⟩
    conv => whnf
    refine ⟨?_, trivial⟩
    try dsimp only
    exact main true 1000 7 (by decide) (by decide) (by decide) (fun _ => ⟨rfl, rfl⟩) (fun q => by cases q) hq
  · rw [if_neg h0, if_neg h0] at hq
    refine ⟨fun _ => ?_, fun z => absurd ((iI_eq (b := 0) ⟨by omega, by omega⟩ ⟨by decide, by decide⟩).mp z) (by omega)⟩
    conv => whnf
    refine ⟨?_, trivial⟩
    try dsimp only
    exact main false P M (by omega) hP hM (fun q => by cases q) (fun _ => ⟨rfl, rfl⟩) hq
end LE

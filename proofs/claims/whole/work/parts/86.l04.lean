/-! the desk: align, add, compare, told -/
section LD
variable {l : Launch} {B : zd_B} {Q : Option Value ⊕ Nat → zx → Prop} {R : Nat → zr} {r : Int32 × Int32 × Int32} {v o c : Option Nat} {st : zx}
theorem j_align (hG : zd_G B) (hl : l.stackTraces = false) (hR : ROk R) {A C : Nat} (hA : A < 10) (hC : C < 10) {m : Int} (hm : m = max (R A).2.2 (R C).2.2)
    (hq : upS (R A) m < 10 ^ 2034 → upS (R C) m < 10 ^ 2034 → Q (.inl none) (R, (bI (R A).1, iI m, bI false), some (upS (R A) m), some (upS (R C) m), c))
    (hx : 2020 ≤ dg (upS (R A) m) ∨ 2020 ≤ dg (upS (R C) m) → ∀ r v o, Q (.inr 11) (R, r, v, o, c)) : zx_M l B m_De_align [.ref 0, .ref (2 + 3 * A : Nat), .ref (2 + 3 * C : Nat)] (R, r, v, o, c) Q := by
  obtain ⟨a1, a2, a3, -⟩ := hR A hA
  obtain ⟨b1, b2, b3, -⟩ := hR C hC
  have ea := cutV_up (V := (R A).2.1) (s := (R A).2.2) (w := m) (by omega)
  have ec := cutV_up (V := (R C).2.1) (s := (R C).2.2) (w := m) (by omega)
  refine zx_go (okx_De_align hG hl) [] 200 ?_
  conv => whnf
  refine ⟨A, rfl, hA, ?_⟩
  conv => whnf
  refine ⟨C, rfl, hC, ?_⟩
  conv => whnf
  dsimp only
  refine x_max hG hl ⟨by omega, by omega⟩ ⟨by omega, by omega⟩ ?_
  rw [← hm]
  conv => whnf
  refine ⟨rc_46, ?_⟩
  refine j_take hG hl hA ?_
  conv => whnf
  refine ⟨rc_46, ?_⟩
  refine j_cutTo hG hl (by omega) (fun hr => ?_) (fun h1 h2 h3 => hx (Or.inl (by unfold upS; rw [dg_mul_pow h1]; omega)) _ _ _)
  have ba := cutV_room hr (hR.lt hA)
  rw [ea.2, ea.1]
  rw [ea.1] at ba
  conv => whnf
  refine ⟨C, rfl, hC, ?_⟩
  conv => whnf
  refine ⟨rc_49, ?_⟩
  refine x_copy49r hG hl hC ?_
  conv => whnf
  refine ⟨C, rfl, hC, ?_⟩
  conv => whnf
  dsimp only
  rw [iI_sub]
  refine ⟨rc_49, ?_⟩
  refine x_move49 hG hl (by omega) (fun lost h1 h2 h3 => ?_) (fun h1 h2 h3 => hx (Or.inr (by unfold upS; rw [dg_mul_pow h1]; omega)) _ _ _)
  conv => whnf
  rw [show (-(m - (R C).2.2)).toNat = 0 by omega, Nat.pow_zero, Nat.div_one]
  have bc := cutV_room (V := (R C).2.1) (s := (R C).2.2) (w := m) (by omega) (hR.lt hC)
  rw [ec.1] at bc
  exact ⟨hq ba bc, trivial⟩
theorem j_addSigned (hG : zd_G B) (hl : l.stackTraces = false) {ng on : Bool} {s lo : Int32} {V W : Nat}
    (hq1 : ng = on → Q (.inl none) (R, (bI ng, s, lo), some (V + W), some W, c))
    (hx : ng = on → 226 < nl V + 1 ∨ 226 < nl W + 1 → Q (.inr 11) (R, (bI ng, s, lo), some V, some W, c))
    (hq2 : ng ≠ on → W ≤ V → Q (.inl none) (R, (bI ng, s, lo), some (V - W), some W, c))
    (hq3 : ng ≠ on → ¬ W ≤ V → Q (.inl none) (R, (bI on, s, lo), some (W - V), some (W - V), c)) : zx_M l B m_De_addSigned [.ref 0, .int (bI on)] (R, (bI ng, s, lo), some V, some W, c) Q := by
  refine zx_go (okx_De_addSigned hG hl) [] 200 ?_
  conv => whnf
  refine ⟨fun z => ?_, fun z => ?_⟩
  · have h : ng ≠ on := fun q => z (by rw [q])
    conv => whnf
    refine ⟨rc_47, ?_⟩
    refine x_order hG hl ?_
    conv => whnf
    by_cases hle : W ≤ V
    · refine ⟨fun z => ?_, fun z => ?_⟩
      · exact absurd z (fun z => by have := cmpN_neg.mpr hle; rw [Int32.lt_iff_toInt_lt] at z; rw [ge_iff_le, Int32.le_iff_toInt_le] at this; omega)
      · conv => whnf
        refine ⟨rc_47, ?_⟩
        refine x_lower47 hG hl hle ?_
        conv => whnf
        exact ⟨hq2 h hle, trivial⟩
    · refine ⟨fun z => ?_, fun z => ?_⟩
      · conv => whnf
        refine ⟨rc_49, ?_⟩
        refine x_lower49 hG hl (by omega) ?_
        conv => whnf
        refine ⟨rc_47, ?_⟩
        refine x_copy47_49 hG hl ?_
        conv => whnf
        refine ⟨on, rfl, ?_⟩
        conv => whnf
        exact ⟨hq3 h hle, trivial⟩
      · exact absurd (cmpN_neg.mp (by rw [ge_iff_le, Int32.le_iff_toInt_le]; rw [Int32.lt_iff_toInt_lt] at z; omega)) hle
  · have h : ng = on := bI_inj z
    conv => whnf
    refine ⟨rc_47, ?_⟩
    refine x_raise hG hl ?_ (fun q => hx h q)
    conv => whnf
    exact ⟨hq1 h, trivial⟩
theorem nl_226 {V : Nat} (h : 226 < nl V + 1) : 2020 ≤ dg V := by
  unfold nl at h
  split at h <;> omega
theorem j_add (hG : zd_G B) (hl : l.stackTraces = false) (hR : ROk R) {a b to : Int} {less : Bool} (ha : iR a) (hb2 : iR b) (hto : iR to)
    (hb : ((a < 0 ∨ 10 ≤ a) ∨ (b < 0 ∨ 10 ≤ b) ∨ (to < 0 ∨ 10 ≤ to)) → Q (.inr 9) (R, r, v, o, c))
    (hq : ∀ A C T : Nat, a = A → b = C → to = T → A < 10 → C < 10 → T < 10 → Cres Q R T (sp_addV (R A) (R C) less).1 (some ((sp_addV (R A) (R C) less).2, max (R A).2.2 (R C).2.2))) : zx_M l B m_De_add [.ref 0, .int (iI a), .int (iI b), .int (iI to), .int (bI less)] (R, r, v, o, c) Q := by
  refine zx_go (okx_De_add hG hl) [46] 200 ?_
  conv => whnf
  refine j_reg3 hG hl ha hb2 hto (fun c1 c2 c3 => ?_) hb
  obtain ⟨A, rfl, hA⟩ := iI_of_nat c1
  obtain ⟨C, rfl, hC⟩ := iI_of_nat c2
  obtain ⟨T, rfl, hT⟩ := iI_of_nat c3
  obtain ⟨a1, a2, a3, -⟩ := hR A hA
  obtain ⟨b1, b2, b3, -⟩ := hR C hC
  have hq := hq A C T rfl rfl rfl hA hC hT
  have long := fun h => hq.2 (by rw [fin_some, if_neg]; have := add_long (less := less) a1 b1 h; omega)
  conv => whnf
  refine ⟨A, rfl, hA, ?_⟩
  conv => whnf
  refine ⟨C, rfl, hC, ?_⟩
  conv => whnf
  refine ⟨rc_0, ?_⟩
  refine j_align hG hl hR hA hC rfl (fun ba bc => ?_) (fun h r v o => long (by omega) _ _ _ _)
  conv => whnf
  refine ⟨C, rfl, hC, ?_⟩
  conv => whnf
  have main : zx_W l B m_De_add 46 [some (.ref 0), some (.int (iI A)), some (.int (iI C)), some (.int (iI T)), some (.int (bI less)), some (.ref (2 + 3 * A : Nat)), some (.ref (2 + 3 * C : Nat))] [.int (bI ((R C).1 != less)), .ref 0] (R, (bI (R A).1, iI (max (R A).2.2 (R C).2.2), bI false), some (upS (R A) (max (R A).2.2 (R C).2.2)), some (upS (R C) (max (R A).2.2 (R C).2.2)), c) Q := by
    unfold sp_addV at hq
    have hsum : dg (upS (R A) (max (R A).2.2 (R C).2.2) + upS (R C) (max (R A).2.2 (R C).2.2)) < 2 ^ 31 := by
      have : dg (upS (R A) (max (R A).2.2 (R C).2.2) + upS (R C) (max (R A).2.2 (R C).2.2)) ≤ 2035 := by
        refine (dg_le_iff (by decide)).mpr ?_
        rw [show (10 : Nat) ^ 2035 = 10 ^ 2034 * 10 from Nat.pow_succ _ _]
        generalize (10 : Nat) ^ 2034 = P at *
        omega
      exact Nat.lt_of_le_of_lt this (by decide)
    generalize upS (R A) (max (R A).2.2 (R C).2.2) = V at *
    generalize upS (R C) (max (R A).2.2 (R C).2.2) = W at *
    refine zx_go (okx_De_add hG hl) [] 200 ?_
    conv => whnf
    refine ⟨rc_0, ?_⟩
    refine j_addSigned hG hl (fun e => ?_) (fun e h => ?_) (fun e h => ?_) (fun e h => ?_)
    · rw [if_pos e] at hq
      conv => whnf
      refine ⟨rc_0, ?_⟩
      exact j_keep hG hl hT ⟨by omega, by omega⟩ hsum (hq.imp (fun _ h => And.intro h trivial) (fun _ h => h))
    · exact long (h.elim (fun q => Or.inl (Nat.lt_of_lt_of_le (by decide) (nl_226 q))) (fun q => Or.inr (Nat.lt_of_lt_of_le (by decide) (nl_226 q)))) _ _ _ _
    · rw [if_neg e, if_pos h] at hq
      conv => whnf
      refine ⟨rc_0, ?_⟩
      exact j_keep hG hl hT ⟨by omega, by omega⟩ (dg31 (Nat.lt_of_le_of_lt (Nat.sub_le _ _) ba)) (hq.imp (fun _ h => And.intro h trivial) (fun _ h => h))
    · rw [if_neg e, if_neg h] at hq
      conv => whnf
      refine ⟨rc_0, ?_⟩
      exact j_keep hG hl hT ⟨by omega, by omega⟩ (dg31 (Nat.lt_of_le_of_lt (Nat.sub_le _ _) bc)) (hq.imp (fun _ h => And.intro h trivial) (fun _ h => h))
  refine ⟨fun z => ?_, fun z => ?_⟩
  · have e : ((R C).1 != less) = false := by rw [bI_inj z]; exact bne_self_eq_false _
    rw [e] at main
    conv => whnf
    refine ⟨?_, trivial⟩
    try dsimp only
    exact main
  · have e : ((R C).1 != less) = true := bne_iff_ne.mpr (fun q => z (by rw [q]))
    rw [e] at main
    conv => whnf
    refine ⟨?_, trivial⟩
    try dsimp only
    exact main
theorem j_orderOfSizes (hG : zd_G B) (hl : l.stackTraces = false) (hR : ROk R) {A C : Nat} (hA : A < 10) (hC : C < 10) (h0 : (R A).2.1 ≠ 0) (h1 : (R C).2.1 ≠ 0)
    (hq : ∀ r v o, Q (.inl (some (.int (cmpN (upS (R A) (max (R A).2.2 (R C).2.2)) (upS (R C) (max (R A).2.2 (R C).2.2)))))) (R, r, v, o, c)) : zx_M l B m_De_orderOfSizes [.ref 0, .ref (2 + 3 * A : Nat), .ref (2 + 3 * C : Nat)] (R, r, v, o, c) Q := by
  obtain ⟨a1, a2, a3, -⟩ := hR A hA
  obtain ⟨b1, b2, b3, -⟩ := hR C hC
  refine zx_go (okx_De_orderOfSizes hG hl) [] 200 ?_
  conv => whnf
  refine ⟨A, rfl, hA, ?_⟩
  conv => whnf
  refine ⟨(rc_n hA), ?_⟩
  refine x_digitsR hG hl hA ?_
  conv => whnf
  refine ⟨A, rfl, hA, ?_⟩
  conv => whnf
  refine ⟨C, rfl, hC, ?_⟩
  conv => whnf
  refine ⟨(rc_n hC), ?_⟩
  refine x_digitsR hG hl hC ?_
  conv => whnf
  refine ⟨C, rfl, hC, ?_⟩
  conv => whnf
  dsimp only
  rw [iI_nI (dg (R A).2.1), iI_nI (dg (R C).2.1), iI_sub, iI_sub]
  by_cases he : (dg (R A).2.1 : Int) - (R A).2.2 = dg (R C).2.1 - (R C).2.2
  · refine ⟨fun _ => ?_, fun z => absurd (by rw [he]) z⟩
    conv => whnf
    refine ⟨rc_0, ?_⟩
    have hlong : ∀ {x y : zr}, x.2.1 ≠ 0 → dg x.2.1 ≤ 1000 → dg y.2.1 ≤ 1000 → (dg x.2.1 : Int) - x.2.2 = dg y.2.1 - y.2.2 → dg (upS x (max x.2.2 y.2.2)) ≤ 1000 := by
      intro x y h0 h1 h2 h3
      unfold upS
      rw [dg_mul_pow h0]
      have := dg_pos y.2.1
      omega
    refine j_align hG hl hR hA hC rfl (fun ba bc => ?_) (fun h r v o => absurd h ?_)
    · conv => whnf
      refine ⟨rc_47, ?_⟩
      refine x_order hG hl ?_
      conv => whnf
      exact ⟨hq _ _ _, trivial⟩
    · have k1 := hlong h0 a1 b1 he
      have k2 := hlong h1 b1 a1 he.symm
      rw [show max (R C).2.2 (R A).2.2 = max (R A).2.2 (R C).2.2 by omega] at k2
      omega
  · refine ⟨fun z => absurd ((iI_eq ⟨by omega, by omega⟩ ⟨by omega, by omega⟩).mp z) he, fun _ => ?_⟩
    conv => whnf
    refine x_cmp hG hl ⟨by omega, by omega⟩ ⟨by omega, by omega⟩ ?_
    conv => whnf
    refine ⟨?_, trivial⟩
    have hq := hq r v o
    have e : cmpI ((dg (R A).2.1 : Int) - (R A).2.2) (dg (R C).2.1 - (R C).2.2) = cmpN (upS (R A) (max (R A).2.2 (R C).2.2)) (upS (R C) (max (R A).2.2 (R C).2.2)) := by
      unfold cmpI cmpN
      rcases Int.lt_or_gt_of_ne he with q | q
      · have := lead_lt (x := R A) (y := R C) (s := max (R A).2.2 (R C).2.2) (by omega) (by omega) h1 q
        rw [if_pos q, if_pos this]
      · have := lead_lt (x := R C) (y := R A) (s := max (R A).2.2 (R C).2.2) (by omega) (by omega) h0 q
        rw [if_neg (by omega), if_neg he, if_neg (by omega), if_neg (by omega)]
    rw [← e] at hq
    exact hq
theorem j_compare (hG : zd_G B) (hl : l.stackTraces = false) (hR : ROk R) {a b : Int} (ha : iR a) (hb : iR b)
    (hbad : ((a < 0 ∨ 10 ≤ a) ∨ (b < 0 ∨ 10 ≤ b)) → Q (.inr 9) (R, r, v, o, c))
    (hq : ∀ A C : Nat, a = A → b = C → A < 10 → C < 10 → ∀ r v o, Q (.inl (some (.int (sp_cmp (R A) (R C))))) (R, r, v, o, c)) : zx_M l B m_De_compare [.ref 0, .int (iI a), .int (iI b)] (R, r, v, o, c) Q := by
  refine zx_go (okx_De_compare hG hl) [39] 200 ?_
  conv => whnf
  refine j_reg2 hG hl ha hb (fun c1 c2 => ?_) (fun q => hbad (by omega))
  obtain ⟨A, rfl, hA⟩ := iI_of_nat c1
  obtain ⟨C, rfl, hC⟩ := iI_of_nat c2
  have hq := hq A C rfl rfl hA hC
  have sa := sgn_r (R A)
  have sc := sgn_r (R C)
  have same : (sgn (R A) ≠ sgn (R C) ∨ sgn (R A) = 0) → zx_W l B m_De_compare 39 [some (.ref 0), some (.int (iI A)), some (.int (iI C)), some (.ref (2 + 3 * A : Nat)), some (.ref (2 + 3 * C : Nat))] [] (R, r, v, o, c) Q := by
    intro h
    unfold sp_cmp at hq
    rw [if_pos h] at hq
    refine zx_go (okx_De_compare hG hl) [] 200 ?_
    conv => whnf
    refine ⟨(rc_d hA), ?_⟩
    refine x_sign hG hl hA ?_
    conv => whnf
    refine ⟨(rc_d hC), ?_⟩
    refine x_sign hG hl hC ?_
    conv => whnf
    refine x_cmp hG hl sa sc ?_
    conv => whnf
    exact ⟨hq _ _ _, trivial⟩
  conv => whnf
  refine ⟨A, rfl, hA, ?_⟩
  conv => whnf
  refine ⟨C, rfl, hC, ?_⟩
  conv => whnf
  refine ⟨(rc_d hA), ?_⟩
  refine x_sign hG hl hA ?_
  conv => whnf
  refine ⟨(rc_d hC), ?_⟩
  refine x_sign hG hl hC ?_
  conv => whnf
  by_cases h : sgn (R A) = sgn (R C)
  · refine ⟨fun z => absurd (by rw [h]) z, fun _ => ?_⟩
    conv => whnf
    refine ⟨(rc_d hA), ?_⟩
    refine x_sign hG hl hA ?_
    conv => whnf
    by_cases h0 : sgn (R A) = 0
    · refine ⟨fun z => absurd (by rw [h0]; rfl) z, fun _ => ?_⟩
      refine ⟨?_, trivial⟩
      try dsimp only
      exact same (Or.inr h0)
    · refine ⟨fun _ => ?_, fun z => absurd ((iI_eq (b := 0) sa ⟨by decide, by decide⟩).mp z) h0⟩
      have hn : ∀ {x : zr}, sgn x ≠ 0 → x.2.1 ≠ 0 := fun q e => q (by unfold sgn; rw [if_pos e])
      conv => whnf
      refine ⟨(rc_d hA), ?_⟩
      refine x_sign hG hl hA ?_
      conv => whnf
      refine ⟨rc_0, ?_⟩
      refine j_orderOfSizes hG hl hR hA hC (hn h0) (hn (by rw [← h]; exact h0)) (fun r v o => ?_)
      conv => whnf
      unfold sp_cmp at hq
      rw [if_neg (by rintro (q | q); exact q h; exact h0 q)] at hq
      exact ⟨hq _ _ _, trivial⟩
  · refine ⟨fun _ => ?_, fun z => absurd ((iI_eq sa sc).mp z) h⟩
    refine ⟨?_, trivial⟩
    try dsimp only
    exact same (Or.inl h)
theorem j_told (hG : zd_G B) (hl : l.stackTraces = false) (hR : ROk R) {a w : Int} (ha : iR a) (hw : iR w)
    (hb1 : (a < 0 ∨ 10 ≤ a) → Q (.inr 9) (R, r, v, o, c))
    (hb2 : ∀ A : Nat, a = A → A < 10 → (w < 0 ∨ (dg (R A).2.1 : Int) ≤ w - 3) → Q (.inr 12) (R, r, v, o, c))
    (hq : ∀ A W : Nat, a = A → w = W → A < 10 → W < dg (R A).2.1 + 3 → Q (.inl (some (.int (sp_told (R A) W)))) (R, r, v, o, c)) : zx_M l B m_De_told [.ref 0, .int (iI a), .int (iI w)] (R, r, v, o, c) Q := by
  have r0 : iR 0 := ⟨by decide, by decide⟩
  have hw1 := hw.1
  have hw2 := hw.2
  refine zx_go (okx_De_told hG hl) [42] 200 ?_
  conv => whnf
  refine j_reg hG hl ha (fun c1 => ?_) hb1
  obtain ⟨A, rfl, hA⟩ := iI_of_nat c1
  obtain ⟨a1, a2, a3, -⟩ := hR A hA
  have hp := dg_pos (R A).2.1
  have hb2 := hb2 A rfl hA
  conv => whnf
  refine ⟨A, rfl, hA, ?_⟩
  conv => whnf
  refine ⟨A, rfl, hA, ?_⟩
  conv => whnf
  refine ⟨(rc_n hA), ?_⟩
  refine x_digitsR hG hl hA ?_
  conv => whnf
  by_cases h1 : w < 0
  · refine ⟨fun _ => ?_, fun z => absurd ((iI_lt hw r0).mpr h1) z⟩
    conv => whnf
    exact ⟨hb2 (Or.inl h1), trivial⟩
  · refine ⟨fun z => absurd ((iI_lt hw r0).mp z) h1, fun _ => ?_⟩
    conv => whnf
    rw [show iI w - 3 = iI (w - 3) from iI_sub w 3, iI_nI (dg _)]
    by_cases h2 : w - 3 < dg (R A).2.1
    · refine ⟨fun _ => ?_, fun z => absurd ((iI_lt ⟨by omega, by omega⟩ ⟨by omega, by omega⟩).mpr h2) z⟩
      obtain ⟨W, rfl⟩ : ∃ W : Nat, w = W := ⟨w.toNat, by omega⟩
      have hq := hq A W rfl rfl hA (by omega)
      unfold sp_told at hq
      refine ⟨?_, trivial⟩
      try dsimp only
      rw [← iI_nI (dg _)]
      by_cases w0 : W = 0
      · subst w0
        rw [if_pos rfl] at hq
        refine zx_go (okx_De_told hG hl) [] 200 ?_
        conv => whnf
        refine ⟨fun _ => ?_, fun z => absurd rfl z⟩
        conv => whnf
        refine ⟨(rc_d hA), ?_⟩
        refine x_sign hG hl hA ?_
        conv => whnf
        exact ⟨hq, trivial⟩
      · rw [if_neg w0] at hq
        by_cases w1 : W = 1
        · subst w1
          rw [if_pos rfl] at hq
          refine zx_go (okx_De_told hG hl) [] 200 ?_
          conv => whnf
          refine ⟨fun z => absurd z (by decide), fun _ => ?_⟩
          conv => whnf
          refine ⟨fun _ => ?_, fun z => absurd rfl z⟩
          conv => whnf
          refine ⟨A, rfl, hA, ?_⟩
          conv => whnf
          exact ⟨hq, trivial⟩
        · rw [if_neg w1] at hq
          by_cases w2 : W = 2
          · subst w2
            rw [if_pos rfl] at hq
            refine zx_go (okx_De_told hG hl) [] 200 ?_
            conv => whnf
            refine ⟨fun z => absurd z (by decide), fun _ => ?_⟩
            conv => whnf
            refine ⟨fun z => absurd z (by decide), fun _ => ?_⟩
            conv => whnf
            refine ⟨fun _ => ?_, fun z => absurd rfl z⟩
            conv => whnf
            exact ⟨hq, trivial⟩
          · rw [if_neg w2] at hq
            rw [← iI_nI W]
            refine zx_go (okx_De_told hG hl) [] 200 ?_
            conv => whnf
            refine ⟨fun z => absurd ((nI_z (by omega)).mp z) w0, fun _ => ?_⟩
            conv => whnf
            refine ⟨fun z => absurd ((nI_eq (b := 1) (by omega) (by decide)).mp z) w1, fun _ => ?_⟩
            conv => whnf
            refine ⟨fun z => absurd ((nI_eq (b := 2) (by omega) (by decide)).mp z) w2, fun _ => ?_⟩
            conv => whnf
            refine ⟨A, rfl, hA, ?_⟩
            conv => whnf
            rw [show nI (dg (R A).2.1) - 1 - (nI W - 3) = nI (dg (R A).2.1 - 1 - (W - 3)) by
              rw [show nI W - 3 = nI (W - 3) from nI_sub (b := 3) (by omega), show nI (dg (R A).2.1) - 1 = nI (dg (R A).2.1 - 1) from nI_sub (b := 1) (by omega), nI_sub (by omega)]]
            refine ⟨(rc_n hA), ?_⟩
            refine x_digitAtR hG hl hA (by omega) ?_
            conv => whnf
            unfold td at hq
            exact ⟨hq, trivial⟩
    · refine ⟨fun z => absurd ((iI_lt ⟨by omega, by omega⟩ ⟨by omega, by omega⟩).mp z) h2, fun _ => ?_⟩
      conv => whnf
      exact ⟨hb2 (Or.inr (by omega)), trivial⟩
end LD

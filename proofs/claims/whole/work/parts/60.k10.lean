/-! the model: told, put -/
section KK
variable {l : Launch} {B : zd_B} {Q : Option Value → zst → Prop} {t ln sz : Nat} {sc : Int} {mo be : Bool} {ts us lz pr fa : Nat} {D K Mn : Nat → Nat} {Mi : Nat → Bool} {Sc : Nat → Int} {rw tp un lf pa : Nat → Nat}
theorem k_told (hG : zd_G B) (hl : l.stackTraces = false) {R : Nat → zr} (hR : ROk R) (hM : MR R K Mn Mi Sc) {a w : Int} (ha : iR a) (hw : iR w)
    (hb1 : (a < 0 ∨ 10 ≤ a) → Q (some (.int 0)) (mS (1) ln sz sc mo be ts us lz pr fa D K Mn Mi Sc rw tp un lf pa))
    (hb2 : ∀ A : Nat, a = A → A < 10 → (w < 0 ∨ (dg (R A).2.1 : Int) ≤ w - 3) → Q (some (.int 0)) (mS (2) ln sz sc mo be ts us lz pr fa D K Mn Mi Sc rw tp un lf pa))
    (hq : ∀ A W : Nat, a = A → w = W → A < 10 → W < dg (R A).2.1 + 3 → Q (some (.int (sp_told (R A) W))) (mS (0) ln sz sc mo be ts us lz pr fa D K Mn Mi Sc rw tp un lf pa)) : zm_M l B gM m_Mo_told [.ref 53, .int (iI a), .int (iI w)] (mS t ln sz sc mo be ts us lz pr fa D K Mn Mi Sc rw tp un lf pa) Q := by
  have r0 : iR 0 := ⟨by decide, by decide⟩
  have hw1 := hw.1
  have hw2 := hw.2
  refine zm_go (okm_Mo_told hG hl) [] 200 ?_
  conv => whnf
  refine k_no hG hl ha ?_
  by_cases ca : a < 0 ∨ 10 ≤ a
  · rw [decide_eq_true ca]
    conv => whnf
    refine ⟨fun z => absurd z (by decide), fun _ => ?_⟩
    conv => whnf
    refine ⟨fun z => absurd z (by decide), fun _ => ?_⟩
    conv => whnf
    exact ⟨hb1 ca, trivial⟩
  · rw [decide_eq_false ca]
    conv => whnf
    refine ⟨fun _ => ?_, fun z => absurd rfl z⟩
    conv => whnf
    obtain ⟨A, ea, la⟩ := iI_of_nat ca
    have hb3 := hb2 A ea la
    have hq2 := fun W e => hq A W ea e la
    subst ea
    rw [← iI_nI]
    obtain ⟨ma, ka, na, sa⟩ := hM.2 A la
    have hRA := hR A la
    refine ⟨fun z => ?_, fun z => ?_⟩
    · have z1 := (iI_lt hw r0).mp z
      conv => whnf
      refine ⟨fun z => absurd z (by decide), fun _ => ?_⟩
      conv => whnf
      exact ⟨hb3 (Or.inl z1), trivial⟩
    · have z1 : ¬ w < 0 := fun q => z ((iI_lt hw r0).mpr q)
      conv => whnf
      refine ⟨A, rfl, by omega, ?_⟩
      conv => whnf
      dsimp only
      rw [ma, show iI w - 3 = iI (w - 3) from iI_sub w 3, iI_nI (dg (R A).2.1)]
      refine ⟨fun z => ?_, fun z => ?_⟩
      · have z2 := (iI_lt ⟨by omega, by omega⟩ ⟨by omega, by omega⟩).mp z
        obtain ⟨W, ew⟩ : ∃ W : Nat, w = W := ⟨w.toNat, by omega⟩
        have hqq := hq2 W ew (by omega)
        subst ew
        unfold sp_told at hqq
        conv => whnf
        refine ⟨fun _ => ?_, fun z => absurd (by decide) z⟩
        conv => whnf
        rw [← iI_nI W]
        by_cases e0 : W = 0
        · rw [if_pos e0] at hqq
          subst e0
          refine ⟨fun z => absurd rfl z, fun _ => ?_⟩
          conv => whnf
          refine k_isZero hG hl hM la ?_
          conv => whnf
          by_cases ez : (R A).2.1 = 0
          · rw [decide_eq_true ez]
            rw [show sgn (R A) = 0 by unfold sgn; rw [if_pos ez]] at hqq
            refine ⟨fun z => absurd z (by decide), fun _ => ?_⟩
            conv => whnf
            exact ⟨hqq, trivial⟩
          · rw [decide_eq_false ez]
            refine ⟨fun _ => ?_, fun z => absurd rfl z⟩
            conv => whnf
            refine ⟨A, rfl, by omega, ?_⟩
            conv => whnf
            dsimp only
            rw [na]
            cases gA : (R A).1
            · rw [show sgn (R A) = 1 by unfold sgn; rw [if_neg ez, gA]; rfl] at hqq
              refine ⟨fun _ => ?_, fun z => absurd rfl z⟩
              conv => whnf
              exact ⟨hqq, trivial⟩
            · rw [show sgn (R A) = -1 by unfold sgn; rw [if_neg ez, gA]; rfl] at hqq
              refine ⟨fun z => absurd z (by decide), fun _ => ?_⟩
              conv => whnf
              exact ⟨hqq, trivial⟩
        · rw [if_neg e0] at hqq
          refine ⟨fun _ => ?_, fun z => absurd ((nI_z (by omega)).mp z) e0⟩
          conv => whnf
          by_cases e1 : W = 1
          · rw [if_pos e1, ← sa] at hqq
            refine ⟨fun z => absurd ((nI_eq (b := 1) (by omega) (by decide)).mpr e1) z, fun _ => ?_⟩
            conv => whnf
            refine ⟨A, rfl, by omega, ?_⟩
            conv => whnf
            exact ⟨hqq, trivial⟩
          · rw [if_neg e1] at hqq
            refine ⟨fun _ => ?_, fun z => absurd ((nI_eq (b := 1) (by omega) (by decide)).mp z) e1⟩
            conv => whnf
            by_cases e2 : W = 2
            · rw [if_pos e2, ← ma] at hqq
              refine ⟨fun z => absurd ((nI_eq (b := 2) (by omega) (by decide)).mpr e2) z, fun _ => ?_⟩
              conv => whnf
              refine ⟨A, rfl, by omega, ?_⟩
              conv => whnf
              exact ⟨hqq, trivial⟩
            · rw [if_neg e2, ← ka (W - 3) (by omega)] at hqq
              refine ⟨fun _ => ?_, fun z => absurd ((nI_eq (b := 2) (by omega) (by decide)).mp z) e2⟩
              conv => whnf
              refine ⟨(1000 * A + (W - 3)), by rw [show (1000 : Int32) = nI 1000 from rfl, show (3 : Int32) = nI 3 from rfl, lmul, nI_add, nI_sub (by omega)]; congr 1; omega, by omega, ?_⟩
              conv => whnf
              exact ⟨hqq, trivial⟩
      · have z2 : ¬ w - 3 < (dg (R A).2.1 : Int) := fun q => z ((iI_lt ⟨by omega, by omega⟩ ⟨by omega, by omega⟩).mpr q)
        conv => whnf
        refine ⟨fun z => absurd z (by decide), fun _ => ?_⟩
        conv => whnf
        exact ⟨hb3 (Or.inr (by omega)), trivial⟩
/-- the digits of a long, from the last on; v is what is left of it -/
theorem w_put (hG : zd_G B) (hl : l.stackTraces = false) {to x : Int} {N : Nat} {s : Int32} (hx : lR x) (hN : N = x.natAbs)
    (hq : ∀ g' (v : Int64) (a : Int32) (u : Option Value), (∀ i, g' i < 10) → tv g' 19 = N → zm_W l B gM m_Mo_put 119 [some (.ref 53), some (.int (iI to)), some (.long (lI x)), none, some (.int s), some (.long v), none, some (.int a), u, none] [] (mS t ln sz sc mo be ts us lz pr fa D K Mn Mi Sc (g') tp un lf pa) Q) :
    ∀ (i : Nat) (g : Nat → Nat) (u : Option Value), i ≤ 19 → (∀ j, g j < 10) → (∀ j, i ≤ j → j < 19 → g j = td N 19 j) → zm_W l B gM m_Mo_put 69 [some (.ref 53), some (.int (iI to)), some (.long (lI x)), none, some (.int s), some (.long (lI (if x < 0 then -((N / 10 ^ (19 - i) : Nat) : Int) else ((N / 10 ^ (19 - i) : Nat) : Int)))), none, some (.int (iI ((i : Int) - 1))), u, none] [] (mS t ln sz sc mo be ts us lz pr fa D K Mn Mi Sc (g) tp un lf pa) Q := by
  have r0 : iR 0 := ⟨by decide, by decide⟩
  have hx1 := hx.1
  have hx2 := hx.2
  have hN19 : N < 10 ^ 19 := by omega
  intro i
  induction i with
  | zero =>
    intro g u hi hd hg
    refine zm_go (okm_Mo_put hG hl) [119] 200 ?_
    conv => whnf
    refine ⟨fun _ => ?_, fun z => absurd (by decide) z⟩
    refine ⟨?_, trivial⟩
    try dsimp only
    refine hq g _ _ _ hd ?_
    rw [tv_congr (fun j hj => hg j (by omega) hj)]
    exact tv_td hN19
  | succ i ih =>
    intro g u hi hd hg
    have ei : iI (((i + 1 : Nat) : Int) - 1) = nI i := by rw [iI_nI]; congr 1; omega
    have hdig : td N 19 i = N / 10 ^ (19 - (i + 1)) % 10 := by unfold td; congr 2; congr 1; omega
    have hnx : N / 10 ^ (19 - i) = N / 10 ^ (19 - (i + 1)) / 10 := by
      rw [Nat.div_div_eq_div_mul, ← Nat.pow_succ]
      congr 2
      omega
    have hM : N / 10 ^ (19 - (i + 1)) ≤ N := Nat.div_le_self _ _
    have ih' := fun g' u h1 h2 => ih g' u (by omega) h1 h2
    rw [hnx] at ih'
    rw [ei]
    generalize N / 10 ^ (19 - (i + 1)) = M at hdig hM ih' ⊢
    have r10 : lR 10 := ⟨by decide, by decide⟩
    have wr : lR (if x < 0 then -(M : Int) else (M : Int)) := by split <;> exact ⟨by omega, by omega⟩
    have e1 := lI_tmod wr r10 (by decide)
    have e2 := lI_tdiv wr r10 (by decide)
    have fin : ∀ u, zm_W l B gM m_Mo_put 105 [some (.ref 53), some (.int (iI to)), some (.long (lI x)), none, some (.int s), some (.long (lI (if x < 0 then -(M : Int) else (M : Int)))), none, some (.int (nI i)), some (.long u), none] [] (mS t ln sz sc mo be ts us lz pr fa D K Mn Mi Sc (zu g i (M % 10)) tp un lf pa) Q := by
      intro u
      refine zm_go (okm_Mo_put hG hl) [69] 200 ?_
      conv => whnf
      refine ⟨by decide, ?_⟩
      conv => whnf
      refine ⟨?_, trivial⟩
      try dsimp only
      rw [show (10 : Int64) = lI 10 from rfl, e2, iI_nI i, iI_m1]
      have := ih' (zu g i (M % 10)) (some (.long u)) (zu_lt hd (Nat.mod_lt _ (by decide))) (fun j h1 h2 => by
        by_cases q : j = i
        · rw [q, zu_s, hdig]
        · rw [zu_n q]; exact hg j (by omega) h2)
      have e3 : (if x < 0 then -(M : Int) else (M : Int)).tdiv 10 = if x < 0 then -((M / 10 : Nat) : Int) else ((M / 10 : Nat) : Int) := by
        split
        · exact negdiv M 10
        · exact Int.ofNat_tdiv M 10
      rw [e3]
      exact this
    refine zm_go (okm_Mo_put hG hl) [105] 200 ?_
    conv => whnf
    refine ⟨fun z => absurd z (nI_pos (by omega)), fun _ => ?_⟩
    conv => whnf
    refine ⟨by decide, ?_⟩
    conv => whnf
    rw [show (10 : Int64) = lI 10 from rfl, e1]
    by_cases hneg : x < 0
    · rw [if_pos hneg] at fin ⊢
      have e4 : (-(M : Int)).tmod 10 = -((M % 10 : Nat) : Int) := negmod M 10
      rw [e4]
      refine ⟨fun z => ?_, fun z => ?_⟩
      · have z1 := (lI_le (a := 0) ⟨by decide, by decide⟩ ⟨by omega, by omega⟩).mp ((lg_cmp_ge _ _).mp z)
        conv => whnf
        refine ⟨i, rfl, by omega, ?_⟩
        conv => whnf
        refine ⟨?_, trivial⟩
        try dsimp only
        rw [lI_i]
        have e5 : -((M % 10 : Nat) : Int) = ((M % 10 : Nat) : Int) := by omega
        rw [e5, ← iI_nI, upd_nI]
        exact fin _
      · conv => whnf
        refine ⟨i, rfl, by omega, ?_⟩
        conv => whnf
        refine ⟨?_, trivial⟩
        try dsimp only
        rw [lI_neg, lI_i, Int.neg_neg, ← iI_nI, upd_nI]
        exact fin _
    · rw [if_neg hneg] at fin ⊢
      have e4 : ((M : Int)).tmod 10 = ((M % 10 : Nat) : Int) := Int.ofNat_tmod M 10
      rw [e4]
      refine ⟨fun z => ?_, fun z => ?_⟩
      · conv => whnf
        refine ⟨i, rfl, by omega, ?_⟩
        conv => whnf
        refine ⟨?_, trivial⟩
        try dsimp only
        rw [lI_i, ← iI_nI, upd_nI]
        exact fin _
      · have z1 : ¬ 0 ≤ ((M % 10 : Nat) : Int) := fun q => z ((lg_cmp_ge _ _).mpr ((lI_le (a := 0) ⟨by decide, by decide⟩ ⟨by omega, by omega⟩).mpr q))
        omega
theorem k_put (hG : zd_G B) (hl : l.stackTraces = false) {R : Nat → zr} (hR : ROk R) (hM : MR R K Mn Mi Sc) {to x s : Int} (hto : iR to) (hx : lR x) (hs : iR s) (hd : ∀ i, rw i < 10)
    (hb : (to < 0 ∨ 10 ≤ to) → Q none (mS (1) ln sz sc mo be ts us lz pr fa D K Mn Mi Sc rw tp un lf pa))
    (hq : ∀ T : Nat, to = T → T < 10 → Res Q R T 0 ln pr 2 D pa K Mn Mi Sc (decide (x < 0)) (some (x.natAbs, s))) : zm_M l B gM m_Mo_put [.ref 53, .int (iI to), .long (lI x), .int (iI s)] (mS t ln sz sc mo be ts us lz pr fa D K Mn Mi Sc rw tp un lf pa) Q := by
  have hs1 := hs.1
  have hs2 := hs.2
  refine zm_go (okm_Mo_put hG hl) [44] 200 ?_
  conv => whnf
  refine k_no hG hl hto ?_
  by_cases ca : to < 0 ∨ 10 ≤ to
  · rw [decide_eq_true ca]
    conv => whnf
    refine ⟨fun z => absurd z (by decide), fun _ => ?_⟩
    conv => whnf
    refine ⟨fun z => absurd z (by decide), fun _ => ?_⟩
    conv => whnf
    exact ⟨hb ca, trivial⟩
  · rw [decide_eq_false ca]
    conv => whnf
    refine ⟨fun _ => ?_, fun z => absurd rfl z⟩
    conv => whnf
    refine ⟨fun _ => ?_, fun z => absurd (by decide) z⟩
    conv => whnf
    obtain ⟨T, et, lt⟩ := iI_of_nat ca
    have hqq := hq T et lt
    have body : zm_W l B gM m_Mo_put 44 [some (.ref 53), some (.int (iI to)), some (.long (lI x)), none, some (.int (iI s)), none, none, none, none, none] [] (mS (0) ln sz sc mo (decide (x < 0)) ts us lz pr (2) D K Mn Mi Sc rw tp un lf pa) Q := by
      refine zm_go (okm_Mo_put hG hl) [69] 200 ?_
      conv => whnf
      refine ⟨false, rfl, ?_⟩
      conv => whnf
      refine ⟨?_, trivial⟩
      try dsimp only
      rw [iI_l hs]
      have w := w_put (Q := Q) (t := 0) (ln := ln) (sz := 19) (sc := s) (mo := false) (be := decide (x < 0)) (ts := ts) (us := us) (lz := lz) (pr := pr) (fa := 2) (D := D) (K := K) (Mn := Mn) (Mi := Mi) (Sc := Sc) (tp := tp) (un := un) (lf := lf) (pa := pa) (to := to) (s := iI s) hG hl hx rfl (fun g' v a u q1 q2 => by
        refine zm_go (okm_Mo_put hG hl) [] 200 ?_
        conv => whnf
        rw [et, ← iI_nI]
        refine k_storeA hG hl hR hM lt (by decide) q1 ⟨by omega, by omega⟩ ?_
        rw [q2]
        refine hqq.imp (fun m hm => ?_)
        conv => whnf
        exact ⟨hm, trivial⟩) 19 rw none (by omega) hd (fun j h1 h2 => by omega)
      rw [Nat.sub_self, Nat.pow_zero, Nat.div_one] at w
      have e6 : (if x < 0 then -((x.natAbs : Nat) : Int) else ((x.natAbs : Nat) : Int)) = x := by split <;> omega
      rw [e6] at w
      exact w
    refine ⟨fun z => ?_, fun z => ?_⟩
    · have z1 : ¬ x < 0 := by
        have := (lI_le (a := 0) ⟨by decide, by decide⟩ hx).mp ((lg_cmp_ge _ _).mp z)
        omega
      rw [decide_eq_false z1] at body
      conv => whnf
      refine ⟨false, rfl, ?_⟩
      conv => whnf
      refine ⟨?_, trivial⟩
      try dsimp only
      exact body
    · have z1 : x < 0 := by
        have : ¬ 0 ≤ x := fun q => z ((lg_cmp_ge _ _).mpr ((lI_le (a := 0) ⟨by decide, by decide⟩ hx).mpr q))
        omega
      rw [decide_eq_true z1] at body
      conv => whnf
      refine ⟨true, rfl, ?_⟩
      conv => whnf
      refine ⟨?_, trivial⟩
      try dsimp only
      exact body
end KK

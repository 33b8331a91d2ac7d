/-! the desk: rounding -/
section LB
variable {l : Launch} {B : zd_B} {Q : Option Value ⊕ Nat → zx → Prop} {R : Nat → zr} {r : Int32 × Int32 × Int32} {v o c : Option Nat} {st : zx}
theorem j_outw (hG : zd_G B) (hl : l.stackTraces = false) {md gd V : Nat} {ng bd : Bool} {s lo : Int32} (hm : md < 8) (hg : gd < 10) (hq : Q (.inl (some (.int (bI (outw md ng gd bd V))))) (R, (bI ng, s, lo), some V, o, c)) : zx_M l B m_Ru_goesOutwards [.ref 46, .int (nI md), .int (nI gd), .int (bI bd)] (R, (bI ng, s, lo), some V, o, c) Q := by
  have g5 : nI gd < 5 ↔ gd < 5 := nI_ltI (b := 5) (by omega) (by decide)
  have h5 : nI gd > 5 ↔ 5 < gd := nI_ltI (a := 5) (by decide) (by omega)
  have e5 : nI gd = 5 ↔ gd = 5 := nI_eq (b := 5) (by omega) (by decide)
  have hmd : md = 0 ∨ md = 1 ∨ md = 2 ∨ md = 3 ∨ md = 4 ∨ md = 5 ∨ md = 6 ∨ md = 7 := by omega
  rcases hmd with e | e | e | e | e | e | e | e <;> subst e
  · refine zx_go (okx_Ru_goesOutwards hG hl) [] 200 ?_
    conv => whnf
    refine ⟨fun _ => ?_, fun z => absurd rfl z⟩
    conv => whnf
    exact ⟨⟨true, rfl, hq⟩, trivial⟩
  · refine zx_go (okx_Ru_goesOutwards hG hl) [] 200 ?_
    conv => whnf
    refine ⟨fun z => absurd z (by decide), fun _ => ?_⟩
    conv => whnf
    refine ⟨fun _ => ?_, fun z => absurd rfl z⟩
    conv => whnf
    exact ⟨⟨false, rfl, hq⟩, trivial⟩
  · refine zx_go (okx_Ru_goesOutwards hG hl) [] 200 ?_
    conv => whnf
    refine ⟨fun z => absurd z (by decide), fun _ => ?_⟩
    conv => whnf
    refine ⟨fun z => absurd z (by decide), fun _ => ?_⟩
    conv => whnf
    refine ⟨fun _ => ?_, fun z => absurd rfl z⟩
    conv => whnf
    cases ng
    · refine ⟨fun z => absurd rfl z, fun _ => ?_⟩
      conv => whnf
      exact ⟨⟨true, rfl, hq⟩, trivial⟩
    · refine ⟨fun _ => ?_, fun z => absurd z (show ¬ bI true = 0 by decide)⟩
      conv => whnf
      exact ⟨⟨false, rfl, hq⟩, trivial⟩
  · refine zx_go (okx_Ru_goesOutwards hG hl) [] 200 ?_
    conv => whnf
    refine ⟨fun z => absurd z (by decide), fun _ => ?_⟩
    conv => whnf
    refine ⟨fun z => absurd z (by decide), fun _ => ?_⟩
    conv => whnf
    refine ⟨fun z => absurd z (by decide), fun _ => ?_⟩
    conv => whnf
    refine ⟨fun _ => ?_, fun z => absurd rfl z⟩
    conv => whnf
    exact ⟨⟨ng, rfl, hq⟩, trivial⟩
  · refine zx_go (okx_Ru_goesOutwards hG hl) [] 200 ?_
    conv => whnf
    refine ⟨fun z => absurd z (by decide), fun _ => ?_⟩
    conv => whnf
    refine ⟨fun z => absurd z (by decide), fun _ => ?_⟩
    conv => whnf
    refine ⟨fun z => absurd z (by decide), fun _ => ?_⟩
    conv => whnf
    refine ⟨fun z => absurd z (by decide), fun _ => ?_⟩
    conv => whnf
    refine ⟨fun _ => ?_, fun z => absurd rfl z⟩
    conv => whnf
    have ho : (outw 4 ng gd bd V) = decide (5 ≤ gd) := rfl
    rw [ho] at hq
    refine ⟨fun z => ?_, fun z => ?_⟩
    · have z2 := g5.mp z
      rw [decide_eq_false (by omega)] at hq
      conv => whnf
      exact ⟨⟨false, rfl, hq⟩, trivial⟩
    · have z2 : ¬ gd < 5 := fun q => z (g5.mpr q)
      rw [decide_eq_true (by omega)] at hq
      conv => whnf
      exact ⟨⟨true, rfl, hq⟩, trivial⟩
  · refine zx_go (okx_Ru_goesOutwards hG hl) [] 200 ?_
    conv => whnf
    refine ⟨fun z => absurd z (by decide), fun _ => ?_⟩
    conv => whnf
    refine ⟨fun z => absurd z (by decide), fun _ => ?_⟩
    conv => whnf
    refine ⟨fun z => absurd z (by decide), fun _ => ?_⟩
    conv => whnf
    refine ⟨fun z => absurd z (by decide), fun _ => ?_⟩
    conv => whnf
    refine ⟨fun z => absurd z (by decide), fun _ => ?_⟩
    conv => whnf
    refine ⟨fun _ => ?_, fun z => absurd rfl z⟩
    conv => whnf
    have ho : (outw 5 ng gd bd V) = (decide (5 < gd) || (decide (gd = 5) && bd)) := rfl
    rw [ho] at hq
    refine ⟨fun z => ?_, fun z => ?_⟩
    · have z2 := h5.mp z
      rw [decide_eq_true z2] at hq
      conv => whnf
      exact ⟨⟨true, rfl, hq⟩, trivial⟩
    · have z2 : ¬ 5 < gd := fun q => z (h5.mpr q)
      rw [decide_eq_false z2] at hq
      conv => whnf
      refine ⟨fun z => ?_, fun z => ?_⟩
      · have z3 : ¬ gd = 5 := fun q => z (e5.mpr q)
        rw [decide_eq_false z3] at hq
        conv => whnf
        exact ⟨⟨false, rfl, hq⟩, trivial⟩
      · have z3 := e5.mp z
        rw [decide_eq_true z3] at hq
        conv => whnf
        cases bd
        · refine ⟨fun _ => ?_, fun z => absurd rfl z⟩
          conv => whnf
          exact ⟨⟨false, rfl, hq⟩, trivial⟩
        · refine ⟨fun z => absurd z (by decide), fun _ => ?_⟩
          conv => whnf
          exact ⟨⟨true, rfl, hq⟩, trivial⟩
  · refine zx_go (okx_Ru_goesOutwards hG hl) [] 200 ?_
    conv => whnf
    refine ⟨fun z => absurd z (by decide), fun _ => ?_⟩
    conv => whnf
    refine ⟨fun z => absurd z (by decide), fun _ => ?_⟩
    conv => whnf
    refine ⟨fun z => absurd z (by decide), fun _ => ?_⟩
    conv => whnf
    refine ⟨fun z => absurd z (by decide), fun _ => ?_⟩
    conv => whnf
    refine ⟨fun z => absurd z (by decide), fun _ => ?_⟩
    conv => whnf
    refine ⟨fun z => absurd z (by decide), fun _ => ?_⟩
    conv => whnf
    refine ⟨fun _ => ?_, fun z => absurd rfl z⟩
    conv => whnf
    have ho : (outw 6 ng gd bd V) = (decide (5 < gd) || (decide (gd = 5) && (bd || decide (V % 10 % 2 ≠ 0)))) := rfl
    rw [ho] at hq
    refine ⟨fun z => ?_, fun z => ?_⟩
    · have z2 := h5.mp z
      rw [decide_eq_true z2] at hq
      conv => whnf
      exact ⟨⟨true, rfl, hq⟩, trivial⟩
    · have z2 : ¬ 5 < gd := fun q => z (h5.mpr q)
      rw [decide_eq_false z2] at hq
      conv => whnf
      refine ⟨fun z => ?_, fun z => ?_⟩
      · have z3 : ¬ gd = 5 := fun q => z (e5.mpr q)
        rw [decide_eq_false z3] at hq
        conv => whnf
        exact ⟨⟨false, rfl, hq⟩, trivial⟩
      · have z3 := e5.mp z
        rw [decide_eq_true z3] at hq
        conv => whnf
        cases bd
        · refine ⟨fun z => absurd rfl z, fun _ => ?_⟩
          conv => whnf
          refine ⟨rc_47, ?_⟩
          refine x_digitAt47 hG hl ?_
          conv => whnf
          refine ⟨by decide, ?_⟩
          conv => whnf
          rw [show nI (V % 10) - nI (V % 10) / 2 * 2 = nI (V % 10 % 2) from nI_rm (b := 2) (by omega) (by decide) (by decide)]
          by_cases hp : V % 10 % 2 = 0
          · rw [decide_eq_false (fun q => q hp)] at hq
            refine ⟨fun _ => ?_, fun z => absurd ((nI_z (by omega)).mpr hp) z⟩
            conv => whnf
            exact ⟨⟨false, rfl, hq⟩, trivial⟩
          · rw [decide_eq_true hp] at hq
            refine ⟨fun z => absurd ((nI_z (by omega)).mp z) hp, fun _ => ?_⟩
            conv => whnf
            exact ⟨⟨true, rfl, hq⟩, trivial⟩
        · refine ⟨fun _ => ?_, fun z => absurd z (by decide)⟩
          conv => whnf
          exact ⟨⟨true, rfl, hq⟩, trivial⟩
  · refine zx_go (okx_Ru_goesOutwards hG hl) [] 200 ?_
    conv => whnf
    refine ⟨fun z => absurd z (by decide), fun _ => ?_⟩
    conv => whnf
    refine ⟨fun z => absurd z (by decide), fun _ => ?_⟩
    conv => whnf
    refine ⟨fun z => absurd z (by decide), fun _ => ?_⟩
    conv => whnf
    refine ⟨fun z => absurd z (by decide), fun _ => ?_⟩
    conv => whnf
    refine ⟨fun z => absurd z (by decide), fun _ => ?_⟩
    conv => whnf
    refine ⟨fun z => absurd z (by decide), fun _ => ?_⟩
    conv => whnf
    refine ⟨fun z => absurd z (by decide), fun _ => ?_⟩
    conv => whnf
    exact ⟨⟨false, rfl, hq⟩, trivial⟩
theorem B226 : (1000000000 : Nat) ^ 226 = 10 ^ 2034 := by rw [p9q]
theorem j_drop (hG : zd_G B) (hl : l.stackTraces = false) {md V : Nat} {ng lo : Bool} {s : Int} (hm : md < 8) (hV : V < 10 ^ 2034)
    (hq : ∀ q, rnd md ng (V / 10) (V % 10) lo = some q → Q (.inl none) (R, (bI ng, iI (s - 1), bI (lo || decide (V % 10 ≠ 0))), some q, o, c))
    (hx : rnd md ng (V / 10) (V % 10) lo = none → ∀ r v, Q (.inr 11) (R, r, v, o, c)) : zx_M l B m_Ru_dropGuard [.ref 46, .int (nI md)] (R, (bI ng, iI s, bI lo), some V, o, c) Q := by
  have e1 : cutV V s (s - 1) = V / 10 := by rw [(cutV_dn (by omega)).1, show (s - (s - 1)).toNat = 1 by omega, Nat.pow_one]
  have e2 : cutL V s (s - 1) = decide (V % 10 ≠ 0) := by rw [(cutV_dn (by omega)).2, show (s - (s - 1)).toNat = 1 by omega, Nat.pow_one]
  refine zx_go (okx_Ru_dropGuard hG hl) [] 200 ?_
  conv => whnf
  refine ⟨rc_47, ?_⟩
  refine x_digitAt47 hG hl ?_
  conv => whnf
  rw [show iI s - 1 = iI (s - 1) from iI_sub s 1]
  refine ⟨rc_46, ?_⟩
  refine j_cutTo hG hl (by omega) (fun _ => ?_) (fun _ h1 _ => by omega)
  rw [e1, e2]
  conv => whnf
  by_cases hz : V % 10 = 0 ∧ lo = false
  · have hr : rnd md ng (V / 10) (V % 10) lo = some (V / 10) := if_pos hz
    have := hq _ hr
    rw [show (lo || decide (V % 10 ≠ 0)) = false by simp [hz.1, hz.2]] at this ⊢
    refine ⟨fun z => absurd rfl z, fun _ => ?_⟩
    conv => whnf
    exact ⟨this, trivial⟩
  · have hl1 : (lo || decide (V % 10 ≠ 0)) = true := by
      cases lo
      · have : V % 10 ≠ 0 := fun q => hz ⟨q, rfl⟩
        simp [this]
      · rfl
    have hr : rnd md ng (V / 10) (V % 10) lo = if md = 7 then none else some (V / 10 + (outw md ng (V % 10) lo (V / 10)).toNat) := if_neg hz
    rw [hl1] at hq ⊢
    rw [hr] at hq hx
    refine ⟨fun _ => ?_, fun z => absurd z (show ¬ bI true = 0 by decide)⟩
    conv => whnf
    by_cases h7 : md = 7
    · refine ⟨fun z => absurd ((nI_eq (b := 7) (by omega) (by decide)).mpr h7) z, fun _ => ?_⟩
      conv => whnf
      exact ⟨hx (if_pos h7) _ _, trivial⟩
    · rw [if_neg h7] at hq
      refine ⟨fun _ => ?_, fun z => absurd ((nI_eq (b := 7) (by omega) (by decide)).mp z) h7⟩
      conv => whnf
      refine ⟨rc_46, ?_⟩
      refine j_outw hG hl hm (by omega) ?_
      conv => whnf
      cases ho : outw md ng (V % 10) lo (V / 10)
      · have := hq _ rfl
        rw [ho] at this
        refine ⟨fun _ => ?_, fun z => absurd rfl z⟩
        conv => whnf
        exact ⟨this, trivial⟩
      · have := hq _ rfl
        rw [ho] at this
        refine ⟨fun z => absurd z (show ¬ bI true = 0 by decide), fun _ => ?_⟩
        conv => whnf
        refine ⟨rc_47, ?_⟩
        refine x_inc47 hG hl ?_ ?_
        · rw [B226]
          have : (10 : Nat) ^ 2034 = 10 ^ 2033 * 10 := by rw [show (2034 : Nat) = 2033 + 1 from rfl, Nat.pow_succ]
          rw [this] at hV ⊢
          have := pow10_pos 2033
          generalize (10 : Nat) ^ 2033 = P at *
          omega
        · conv => whnf
          exact ⟨this, trivial⟩
theorem j_fit (hG : zd_G B) (hl : l.stackTraces = false) {md V prec : Nat} {ng lo : Bool} {s wish : Int} (hm : md < 8) (hp : 1 ≤ prec) (hp2 : prec ≤ 1000) (hV : V < 10 ^ 2034) (h1 : V ≠ 0 ∨ lo = false) (hs : -60000 < s ∧ s < 60000) (hw : -60000 < wish ∧ wish < 60000)
    (hq : ∀ V' s' lo', fit prec wish md ng V s lo = some (V', s') → V' < 10 ^ 2034 → -100000 < s' → s' < 100000 → Q (.inl none) (R, (bI ng, iI s', lo'), some V', o, c))
    (hx : fit prec wish md ng V s lo = none → ∀ r v, Q (.inr 11) (R, r, v, o, c)) : zx_M l B m_Ru_fitPrecision [.ref 46, .int (nI prec), .int (iI wish), .int (nI md)] (R, (bI ng, iI s, bI lo), some V, o, c) Q := by
  have hd := dg_pos V
  have hdz : dg V ≤ 2034 := (dg_le_iff (by decide)).mpr hV
  have p1000 : (10 : Nat) ^ 1001 ≤ 10 ^ 2034 := Nat.pow_le_pow_right (by decide) (by decide)
  unfold fit at hq hx
  have main : ¬ (V = 0 ∧ lo = false) → zx_W l B m_Ru_fitPrecision 23 [some (.ref 46), some (.int (nI prec)), some (.int (iI wish)), some (.int (nI md)), none, none] [] (R, (bI ng, iI s, bI lo), some V, o, c) Q := by
    intro hz
    rw [if_neg hz] at hq hx
    have hV0 : V ≠ 0 := fun q => by
      rcases h1 with h1 | h1
      · exact h1 q
      · exact hz ⟨q, h1⟩
    have hdc : dg (cutV V s (s + prec + 1 - dg V)) = prec + 1 := by
      have := dg_cut hV0 (s := s) (n := prec + 1) (by omega)
      rw [show s + ((prec + 1 : Nat) : Int) - dg V = s + prec + 1 - dg V by omega] at this
      exact this
    refine zx_go (okx_Ru_fitPrecision hG hl) [66] 200 ?_
    conv => whnf
    refine ⟨rc_47, ?_⟩
    refine x_digits47 hG hl ?_
    conv => whnf
    rw [show iI s + nI prec + 1 - nI (dg V) = iI (s + prec + 1 - dg V) by rw [iI_nI, iI_nI, show (1 : Int32) = iI 1 from rfl, iI_add, iI_add, iI_sub]]
    refine ⟨rc_46, ?_⟩
    refine j_cutTo hG hl (by omega) (fun _ => ?_) (fun _ h4 h5 => by omega)
    generalize hwd : s + (prec : Int) + 1 - dg V = w at *
    generalize hV1 : cutV V s w = V1 at *
    generalize hlo : (lo || cutL V s w) = l1 at *
    have hV1p : V1 < 10 ^ 2034 := Nat.lt_of_lt_of_le (dg_lt V1) (by rw [hdc]; exact Nat.le_trans (Nat.pow_le_pow_right (by decide) (by omega)) p1000)
    have hV1q : V1 / 10 ≠ 0 := by
      have := dg_ge V1 (Nat.pos_of_ne_zero (fun q => by rw [q, dg_0] at hdc; omega))
      rw [hdc, Nat.add_sub_cancel] at this
      have h10 : 10 ^ 1 ≤ 10 ^ prec := Nat.pow_le_pow_right (by decide) hp
      omega
    have go : zx_W l B m_Ru_fitPrecision 66 [some (.ref 46), some (.int (nI prec)), some (.int (iI wish)), some (.int (nI md)), none, none] [.int (bI (decide (V1 % 10 = 0 ∧ l1 = false)))] (R, (bI ng, iI w, bI l1), some V1, o, c) Q := by
      unfold fitW at hq hx
      by_cases hex : V1 % 10 = 0 ∧ l1 = false
      · rw [decide_eq_true hex]
        rw [if_pos hex] at hq hx
        refine zx_go (okx_Ru_fitPrecision hG hl) [] 200 ?_
        conv => whnf
        refine ⟨rc_46, ?_⟩
        refine j_drop hG hl hm hV1p (fun q e => ?_) (fun e => ?_)
        · have e' : q = V1 / 10 := by
            have : rnd md ng (V1 / 10) (V1 % 10) l1 = some (V1 / 10) := if_pos hex
            rw [this] at e
            exact (Option.some.inj e).symm
          subst e'
          have htz := tz_lt_dg hV1q
          have hdq : dg (V1 / 10) ≤ 1000 := by
            have := dg_div_pow (V := V1) (k := 1) (by omega)
            rw [Nat.pow_one] at this
            omega
          conv => whnf
          refine ⟨fun z => absurd z (show ¬ bI true = 0 by decide), fun _ => ?_⟩
          conv => whnf
          rw [iI_sub, show (0 : Int32) = iI 0 from rfl]
          refine x_max hG hl ⟨by decide, by decide⟩ ⟨by omega, by omega⟩ ?_
          conv => whnf
          refine ⟨rc_47, ?_⟩
          refine x_tz47 hG hl hV1q ?_
          conv => whnf
          rw [iI_nI (tz (V1 / 10))]
          refine x_min hG hl ⟨by omega, by omega⟩ ⟨by omega, by omega⟩ ?_
          conv => whnf
          rw [iI_sub]
          refine ⟨rc_46, ?_⟩
          refine j_cutTo hG hl (by omega) (fun _ => ?_) (fun _ h4 h5 => by omega)
          conv => whnf
          have ec : cutV (V1 / 10) (w - 1) (w - 1 - min (max 0 (w - 1 - wish)) (tz (V1 / 10) : Int)) = V1 / 10 / 10 ^ (min (w - 1 - wish).toNat (tz (V1 / 10))) := by
            rw [(cutV_dn (by omega)).1]
            congr 2
            omega
          rw [ec]
          have := hq (V1 / 10 / 10 ^ (min (w - 1 - wish).toNat (tz (V1 / 10)))) (w - 1 - (min (w - 1 - wish).toNat (tz (V1 / 10)) : Nat)) (bI ((l1 || decide (V1 % 10 ≠ 0)) || cutL (V1 / 10) (w - 1) (w - 1 - min (max 0 (w - 1 - wish)) (tz (V1 / 10) : Int)))) rfl (Nat.lt_of_le_of_lt (Nat.le_trans (Nat.div_le_self _ _) (Nat.div_le_self _ _)) hV1p) (by omega) (by omega)
          rw [show w - 1 - ((min (w - 1 - wish).toNat (tz (V1 / 10)) : Nat) : Int) = w - 1 - min (max 0 (w - 1 - wish)) (tz (V1 / 10) : Int) by omega] at this
          exact ⟨this, trivial⟩
        · have : rnd md ng (V1 / 10) (V1 % 10) l1 = some (V1 / 10) := if_pos hex
          rw [this] at e
          cases e
      · rw [decide_eq_false hex]
        rw [if_neg hex] at hq hx
        refine zx_go (okx_Ru_fitPrecision hG hl) [] 200 ?_
        conv => whnf
        refine ⟨rc_46, ?_⟩
        refine j_drop hG hl hm hV1p (fun q e => ?_) (fun e r v => ?_)
        · rw [e] at hq
          have hqb : q ≤ V1 / 10 + 1 := by
            unfold rnd at e
            split at e
            · cases e; omega
            · split at e
              · cases e
              · cases e
                cases outw md ng (V1 % 10) l1 (V1 / 10) <;> simp
          have hql : q < 10 ^ 2034 := by
            have h3 : V1 < 10 ^ 1001 := Nat.lt_of_lt_of_le (dg_lt V1) (by rw [hdc]; exact Nat.pow_le_pow_right (by decide) (by omega))
            have h4 : q ≤ 10 ^ 1001 := by omega
            exact Nat.lt_of_le_of_lt h4 (Nat.pow_lt_pow_right (by decide) (by decide))
          have hdq : dg q < 2 ^ 31 := Nat.lt_of_le_of_lt ((dg_le_iff (n := 2034) (by decide)).mpr hql) (by decide)
          conv => whnf
          refine ⟨fun _ => ?_, fun z => absurd rfl z⟩
          conv => whnf
          refine ⟨rc_47, ?_⟩
          refine x_digits47 hG hl ?_
          conv => whnf
          by_cases hle : dg q ≤ prec
          · have := hq q (w - 1) (bI (l1 || decide (V1 % 10 ≠ 0))) (by show (if dg q ≤ prec then _ else _) = _; rw [if_pos hle]) hql (by omega) (by omega)
            refine ⟨fun _ => ?_, fun z => absurd ((nI_leI hdq (by omega)).mpr hle) z⟩
            conv => whnf
            exact ⟨this, trivial⟩
          · refine ⟨fun z => absurd ((nI_leI hdq (by omega)).mp z) hle, fun _ => ?_⟩
            conv => whnf
            rw [show iI (w - 1) - 1 = iI (w - 2) by show _ - iI 1 = _; rw [iI_sub]; congr 1; omega]
            refine ⟨rc_46, ?_⟩
            refine j_cutTo hG hl (by omega) (fun _ => ?_) (fun _ h4 h5 => by omega)
            conv => whnf
            have ec : cutV q (w - 1) (w - 2) = q / 10 := by rw [(cutV_dn (by omega)).1, show (w - 1 - (w - 2)).toNat = 1 by omega, Nat.pow_one]
            rw [ec]
            have := hq (q / 10) (w - 2) (bI ((l1 || decide (V1 % 10 ≠ 0)) || cutL q (w - 1) (w - 2))) (by show (if dg q ≤ prec then _ else _) = _; rw [if_neg hle]) (Nat.lt_of_le_of_lt (Nat.div_le_self _ _) hql) (by omega) (by omega)
            exact ⟨this, trivial⟩
        · exact hx (by rw [e]) r v
    conv => whnf
    cases l1
    · refine ⟨fun z => absurd rfl z, fun _ => ?_⟩
      conv => whnf
      refine ⟨rc_47, ?_⟩
      refine x_digitAt47 hG hl ?_
      conv => whnf
      by_cases h10 : V1 % 10 = 0
      · rw [decide_eq_true ⟨h10, rfl⟩] at go
        refine ⟨fun z => absurd ((nI_z (by omega)).mpr h10) z, fun _ => ?_⟩
        conv => whnf
        refine ⟨?_, trivial⟩
        try dsimp only
        exact go
      · rw [decide_eq_false (fun q => h10 q.1)] at go
        refine ⟨fun _ => ?_, fun z => absurd ((nI_z (by omega)).mp z) h10⟩
        conv => whnf
        refine ⟨?_, trivial⟩
        try dsimp only
        exact go
    · rw [decide_eq_false (fun q => absurd q.2 (by decide))] at go
      refine ⟨fun _ => ?_, fun z => absurd z (show ¬ bI true = 0 by decide)⟩
      conv => whnf
      refine ⟨?_, trivial⟩
      try dsimp only
      exact go
  refine zx_go (okx_Ru_fitPrecision hG hl) [23] 200 ?_
  conv => whnf
  refine ⟨rc_47, ?_⟩
  refine x_isZero47 hG hl ?_
  conv => whnf
  by_cases hv : V = 0
  · rw [decide_eq_true hv]
    refine ⟨fun z => absurd z (show ¬ bI true = 0 by decide), fun _ => ?_⟩
    conv => whnf
    cases lo
    · rw [if_pos ⟨hv, rfl⟩] at hq
      refine ⟨fun z => absurd rfl z, fun _ => ?_⟩
      conv => whnf
      have := hq 0 wish (bI false) rfl (pow10_pos _) (by omega) (by omega)
      subst hv
      exact ⟨this, trivial⟩
    · refine ⟨fun _ => ?_, fun z => absurd z (show ¬ bI true = 0 by decide)⟩
      refine ⟨?_, trivial⟩
      try dsimp only
      exact main (fun q => absurd q.2 (by decide))
  · rw [decide_eq_false hv]
    refine ⟨fun _ => ?_, fun z => absurd rfl z⟩
    refine ⟨?_, trivial⟩
    try dsimp only
    exact main (fun q => hv q.1)
end LB

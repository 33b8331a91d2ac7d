/-! the model: rounding -/
def gro (md : Nat) (neg : Bool) (guard : Nat) (beyond : Bool) (q : Nat) : Nat := if guard = 0 ∧ beyond = false then 0 else if md = 7 then 2 else (outw md neg guard beyond q).toNat
theorem rnd_gro {md : Nat} {neg : Bool} {q guard : Nat} {beyond : Bool} : rnd md neg q guard beyond = if gro md neg guard beyond q = 2 then none else some (q + gro md neg guard beyond q) := by
  unfold rnd gro
  by_cases h : guard = 0 ∧ beyond = false
  · rw [if_pos h, if_pos h]; rfl
  · rw [if_neg h, if_neg h]
    by_cases e : md = 7
    · rw [if_pos e, if_pos e]; rfl
    · rw [if_neg e, if_neg e]
      cases outw md neg guard beyond q <;> rfl
section KD
variable {l : Launch} {B : zd_B} {Q : Option Value → zst → Prop} {t ln sz : Nat} {sc : Int} {mo be : Bool} {ts us lz pr fa : Nat} {D K Mn : Nat → Nat} {Mi : Nat → Bool} {Sc : Nat → Int} {rw tp un lf pa : Nat → Nat}
theorem w_grows (hG : zd_G B) (hl : l.stackTraces = false) {kp : Int32} {md gd q0 la : Nat} {bd : Bool} (hm : md < 8) (hg : gd < 10) (hla : la < 10) (hp : la % 2 = q0 % 10 % 2)
    (hq : Q (some (.int (nI (gro md be gd bd q0)))) (mS t ln sz sc mo be ts us lz pr fa D K Mn Mi Sc rw tp un lf pa)) : zm_W l B gM m_Mo_grows 94 [some (.ref 53), some (.int kp), some (.int (nI md)), some (.int (nI gd)), some (.int (bI bd)), some (.int (bI (decide (gd = 0 ∧ bd = false)))), some (.int (nI la))] [] (mS t ln sz sc mo be ts us lz pr fa D K Mn Mi Sc rw tp un lf pa) Q := by
  have g5 : nI gd < 5 ↔ gd < 5 := nI_ltI (b := 5) (by omega) (by decide)
  have h5 : nI gd > 5 ↔ 5 < gd := nI_ltI (a := 5) (by decide) (by omega)
  have e5 : nI gd = 5 ↔ gd = 5 := nI_eq (b := 5) (by omega) (by decide)
  have hpar : nI la - nI la / 2 * 2 = 1 ↔ la % 2 = 1 := by
    have : nI la - nI la / 2 * 2 = nI (la % 2) := nI_rm (b := 2) (by omega) (by decide) (by decide)
    rw [this]
    exact nI_eq (b := 1) (by omega) (by decide)
  by_cases h : gd = 0 ∧ bd = false
  · rw [decide_eq_true h]
    rw [show gro md be gd bd q0 = 0 from if_pos h] at hq
    obtain ⟨h1, h2⟩ := h
    subst h1
    subst h2
    have hmd : md = 0 ∨ md = 1 ∨ md = 2 ∨ md = 3 ∨ md = 4 ∨ md = 5 ∨ md = 6 ∨ md = 7 := by omega
    rcases hmd with e | e | e | e | e | e | e | e <;> subst e
    · refine zm_go (okm_Mo_grows hG hl) [] 200 ?_
      conv => whnf
      refine ⟨fun _ => ?_, fun z => absurd rfl z⟩
      conv => whnf
      refine ⟨fun z => absurd z (by decide), fun _ => ?_⟩
      conv => whnf
      exact ⟨hq, trivial⟩
    · refine zm_go (okm_Mo_grows hG hl) [] 200 ?_
      conv => whnf
      refine ⟨fun z => absurd z (by decide), fun _ => ?_⟩
      conv => whnf
      refine ⟨fun _ => ?_, fun z => absurd rfl z⟩
      conv => whnf
      exact ⟨hq, trivial⟩
    · refine zm_go (okm_Mo_grows hG hl) [] 200 ?_
      conv => whnf
      refine ⟨fun z => absurd z (by decide), fun _ => ?_⟩
      conv => whnf
      refine ⟨fun z => absurd z (by decide), fun _ => ?_⟩
      conv => whnf
      refine ⟨fun _ => ?_, fun z => absurd rfl z⟩
      conv => whnf
      refine ⟨fun _ => ?_, fun z => absurd z (by decide)⟩
      conv => whnf
      exact ⟨hq, trivial⟩
    · refine zm_go (okm_Mo_grows hG hl) [] 200 ?_
      conv => whnf
      refine ⟨fun z => absurd z (by decide), fun _ => ?_⟩
      conv => whnf
      refine ⟨fun z => absurd z (by decide), fun _ => ?_⟩
      conv => whnf
      refine ⟨fun z => absurd z (by decide), fun _ => ?_⟩
      conv => whnf
      refine ⟨fun _ => ?_, fun z => absurd rfl z⟩
      conv => whnf
      refine ⟨fun _ => ?_, fun z => absurd z (by decide)⟩
      conv => whnf
      exact ⟨hq, trivial⟩
    · refine zm_go (okm_Mo_grows hG hl) [] 200 ?_
      conv => whnf
      refine ⟨fun z => absurd z (by decide), fun _ => ?_⟩
      conv => whnf
      refine ⟨fun z => absurd z (by decide), fun _ => ?_⟩
      conv => whnf
      refine ⟨fun z => absurd z (by decide), fun _ => ?_⟩
      conv => whnf
      refine ⟨fun z => absurd z (by decide), fun _ => ?_⟩
      conv => whnf
      refine ⟨fun _ => ?_, fun z => absurd rfl z⟩
      conv => whnf
      refine ⟨fun _ => ?_, fun z => absurd (by decide) z⟩
      conv => whnf
      exact ⟨hq, trivial⟩
    · refine zm_go (okm_Mo_grows hG hl) [] 200 ?_
      conv => whnf
      refine ⟨fun z => absurd z (by decide), fun _ => ?_⟩
      conv => whnf
      refine ⟨fun z => absurd z (by decide), fun _ => ?_⟩
      conv => whnf
      refine ⟨fun z => absurd z (by decide), fun _ => ?_⟩
      conv => whnf
      refine ⟨fun z => absurd z (by decide), fun _ => ?_⟩
      conv => whnf
      refine ⟨fun z => absurd z (by decide), fun _ => ?_⟩
      conv => whnf
      refine ⟨fun _ => ?_, fun z => absurd rfl z⟩
      conv => whnf
      refine ⟨fun z => absurd z (by decide), fun _ => ?_⟩
      conv => whnf
      refine ⟨fun _ => ?_, fun z => absurd z (by decide)⟩
      conv => whnf
      exact ⟨hq, trivial⟩
    · refine zm_go (okm_Mo_grows hG hl) [] 200 ?_
      conv => whnf
      refine ⟨fun z => absurd z (by decide), fun _ => ?_⟩
      conv => whnf
      refine ⟨fun z => absurd z (by decide), fun _ => ?_⟩
      conv => whnf
      refine ⟨fun z => absurd z (by decide), fun _ => ?_⟩
      conv => whnf
      refine ⟨fun z => absurd z (by decide), fun _ => ?_⟩
      conv => whnf
      refine ⟨fun z => absurd z (by decide), fun _ => ?_⟩
      conv => whnf
      refine ⟨fun z => absurd z (by decide), fun _ => ?_⟩
      conv => whnf
      refine ⟨fun _ => ?_, fun z => absurd rfl z⟩
      conv => whnf
      refine ⟨fun z => absurd z (by decide), fun _ => ?_⟩
      conv => whnf
      refine ⟨fun _ => ?_, fun z => absurd z (by decide)⟩
      conv => whnf
      exact ⟨hq, trivial⟩
    · refine zm_go (okm_Mo_grows hG hl) [] 200 ?_
      conv => whnf
      refine ⟨fun z => absurd z (by decide), fun _ => ?_⟩
      conv => whnf
      refine ⟨fun z => absurd z (by decide), fun _ => ?_⟩
      conv => whnf
      refine ⟨fun z => absurd z (by decide), fun _ => ?_⟩
      conv => whnf
      refine ⟨fun z => absurd z (by decide), fun _ => ?_⟩
      conv => whnf
      refine ⟨fun z => absurd z (by decide), fun _ => ?_⟩
      conv => whnf
      refine ⟨fun z => absurd z (by decide), fun _ => ?_⟩
      conv => whnf
      refine ⟨fun z => absurd z (by decide), fun _ => ?_⟩
      conv => whnf
      refine ⟨fun z => absurd z (by decide), fun _ => ?_⟩
      conv => whnf
      exact ⟨hq, trivial⟩
  · rw [decide_eq_false h]
    have hgr : gro md be gd bd q0 = if md = 7 then 2 else (outw md be gd bd q0).toNat := if_neg h
    rw [hgr] at hq
    have hmd : md = 0 ∨ md = 1 ∨ md = 2 ∨ md = 3 ∨ md = 4 ∨ md = 5 ∨ md = 6 ∨ md = 7 := by omega
    rcases hmd with e | e | e | e | e | e | e | e <;> subst e
    · refine zm_go (okm_Mo_grows hG hl) [] 200 ?_
      conv => whnf
      refine ⟨fun _ => ?_, fun z => absurd rfl z⟩
      conv => whnf
      refine ⟨fun _ => ?_, fun z => absurd rfl z⟩
      conv => whnf
      exact ⟨hq, trivial⟩
    · refine zm_go (okm_Mo_grows hG hl) [] 200 ?_
      conv => whnf
      refine ⟨fun z => absurd z (by decide), fun _ => ?_⟩
      conv => whnf
      refine ⟨fun _ => ?_, fun z => absurd rfl z⟩
      conv => whnf
      exact ⟨hq, trivial⟩
    · refine zm_go (okm_Mo_grows hG hl) [] 200 ?_
      conv => whnf
      refine ⟨fun z => absurd z (by decide), fun _ => ?_⟩
      conv => whnf
      refine ⟨fun z => absurd z (by decide), fun _ => ?_⟩
      conv => whnf
      refine ⟨fun _ => ?_, fun z => absurd rfl z⟩
      conv => whnf
      refine ⟨fun z => absurd rfl z, fun _ => ?_⟩
      conv => whnf
      cases be
      · refine ⟨fun _ => ?_, fun z => absurd rfl z⟩
        conv => whnf
        exact ⟨hq, trivial⟩
      · refine ⟨fun z => absurd z (by decide), fun _ => ?_⟩
        conv => whnf
        exact ⟨hq, trivial⟩
    · refine zm_go (okm_Mo_grows hG hl) [] 200 ?_
      conv => whnf
      refine ⟨fun z => absurd z (by decide), fun _ => ?_⟩
      conv => whnf
      refine ⟨fun z => absurd z (by decide), fun _ => ?_⟩
      conv => whnf
      refine ⟨fun z => absurd z (by decide), fun _ => ?_⟩
      conv => whnf
      refine ⟨fun _ => ?_, fun z => absurd rfl z⟩
      conv => whnf
      refine ⟨fun z => absurd rfl z, fun _ => ?_⟩
      conv => whnf
      cases be
      · refine ⟨fun z => absurd rfl z, fun _ => ?_⟩
        conv => whnf
        exact ⟨hq, trivial⟩
      · refine ⟨fun _ => ?_, fun z => absurd z (by decide)⟩
        conv => whnf
        exact ⟨hq, trivial⟩
    · refine zm_go (okm_Mo_grows hG hl) [] 200 ?_
      conv => whnf
      refine ⟨fun z => absurd z (by decide), fun _ => ?_⟩
      conv => whnf
      refine ⟨fun z => absurd z (by decide), fun _ => ?_⟩
      conv => whnf
      refine ⟨fun z => absurd z (by decide), fun _ => ?_⟩
      conv => whnf
      refine ⟨fun z => absurd z (by decide), fun _ => ?_⟩
      conv => whnf
      refine ⟨fun _ => ?_, fun z => absurd rfl z⟩
      conv => whnf
      have ho : (outw 4 be gd bd q0) = decide (5 ≤ gd) := rfl
      rw [if_neg (by decide), ho] at hq
      refine ⟨fun z => ?_, fun z => ?_⟩
      · have z2 := g5.mp z
        rw [decide_eq_false (by omega)] at hq
        conv => whnf
        exact ⟨hq, trivial⟩
      · have z2 : ¬ gd < 5 := fun q => z (g5.mpr q)
        rw [decide_eq_true (by omega)] at hq
        conv => whnf
        exact ⟨hq, trivial⟩
    · refine zm_go (okm_Mo_grows hG hl) [] 200 ?_
      conv => whnf
      refine ⟨fun z => absurd z (by decide), fun _ => ?_⟩
      conv => whnf
      refine ⟨fun z => absurd z (by decide), fun _ => ?_⟩
      conv => whnf
      refine ⟨fun z => absurd z (by decide), fun _ => ?_⟩
      conv => whnf
      refine ⟨fun z => absurd z (by decide), fun _ => ?_⟩
      conv => whnf
      refine ⟨fun z => absurd z (by decide), fun _ => ?_⟩
      conv => whnf
      refine ⟨fun _ => ?_, fun z => absurd rfl z⟩
      conv => whnf
      have ho : (outw 5 be gd bd q0) = (decide (5 < gd) || (decide (gd = 5) && bd)) := rfl
      rw [if_neg (by decide), ho] at hq
      refine ⟨fun z => ?_, fun z => ?_⟩
      · have z2 := h5.mp z
        rw [decide_eq_true z2] at hq
        conv => whnf
        exact ⟨hq, trivial⟩
      · have z2 : ¬ 5 < gd := fun q => z (h5.mpr q)
        rw [decide_eq_false z2] at hq
        conv => whnf
        refine ⟨fun z => ?_, fun z => ?_⟩
        · have z3 : ¬ gd = 5 := fun q => z (e5.mpr q)
          rw [decide_eq_false z3] at hq
          conv => whnf
          exact ⟨hq, trivial⟩
        · have z3 := e5.mp z
          rw [decide_eq_true z3] at hq
          conv => whnf
          cases bd
          · refine ⟨fun _ => ?_, fun z => absurd rfl z⟩
            conv => whnf
            exact ⟨hq, trivial⟩
          · refine ⟨fun z => absurd z (by decide), fun _ => ?_⟩
            conv => whnf
            exact ⟨hq, trivial⟩
    · refine zm_go (okm_Mo_grows hG hl) [] 200 ?_
      conv => whnf
      refine ⟨fun z => absurd z (by decide), fun _ => ?_⟩
      conv => whnf
      refine ⟨fun z => absurd z (by decide), fun _ => ?_⟩
      conv => whnf
      refine ⟨fun z => absurd z (by decide), fun _ => ?_⟩
      conv => whnf
      refine ⟨fun z => absurd z (by decide), fun _ => ?_⟩
      conv => whnf
      refine ⟨fun z => absurd z (by decide), fun _ => ?_⟩
      conv => whnf
      refine ⟨fun z => absurd z (by decide), fun _ => ?_⟩
      conv => whnf
      refine ⟨fun _ => ?_, fun z => absurd rfl z⟩
      conv => whnf
      have ho : (outw 6 be gd bd q0) = (decide (5 < gd) || (decide (gd = 5) && (bd || decide (q0 % 10 % 2 ≠ 0)))) := rfl
      rw [if_neg (by decide), ho] at hq
      refine ⟨fun z => ?_, fun z => ?_⟩
      · have z2 := h5.mp z
        rw [decide_eq_true z2] at hq
        conv => whnf
        exact ⟨hq, trivial⟩
      · have z2 : ¬ 5 < gd := fun q => z (h5.mpr q)
        rw [decide_eq_false z2] at hq
        conv => whnf
        refine ⟨fun z => ?_, fun z => ?_⟩
        · have z3 : ¬ gd = 5 := fun q => z (e5.mpr q)
          rw [decide_eq_false z3] at hq
          conv => whnf
          exact ⟨hq, trivial⟩
        · have z3 := e5.mp z
          rw [decide_eq_true z3] at hq
          conv => whnf
          cases bd
          · refine ⟨fun z => absurd rfl z, fun _ => ?_⟩
            conv => whnf
            refine ⟨by decide, ?_⟩
            conv => whnf
            refine ⟨fun z => ?_, fun z => ?_⟩
            · have z4 : ¬ la % 2 = 1 := fun q => z (hpar.mpr q)
              rw [decide_eq_false (p := q0 % 10 % 2 ≠ 0) (by omega)] at hq
              conv => whnf
              exact ⟨hq, trivial⟩
            · have z4 := hpar.mp z
              rw [decide_eq_true (p := q0 % 10 % 2 ≠ 0) (by omega)] at hq
              conv => whnf
              exact ⟨hq, trivial⟩
          · refine ⟨fun _ => ?_, fun z => absurd z (by decide)⟩
            conv => whnf
            exact ⟨hq, trivial⟩
    · refine zm_go (okm_Mo_grows hG hl) [] 200 ?_
      conv => whnf
      refine ⟨fun z => absurd z (by decide), fun _ => ?_⟩
      conv => whnf
      refine ⟨fun z => absurd z (by decide), fun _ => ?_⟩
      conv => whnf
      refine ⟨fun z => absurd z (by decide), fun _ => ?_⟩
      conv => whnf
      refine ⟨fun z => absurd z (by decide), fun _ => ?_⟩
      conv => whnf
      refine ⟨fun z => absurd z (by decide), fun _ => ?_⟩
      conv => whnf
      refine ⟨fun z => absurd z (by decide), fun _ => ?_⟩
      conv => whnf
      refine ⟨fun z => absurd z (by decide), fun _ => ?_⟩
      conv => whnf
      refine ⟨fun _ => ?_, fun z => absurd rfl z⟩
      conv => whnf
      exact ⟨hq, trivial⟩
end KD

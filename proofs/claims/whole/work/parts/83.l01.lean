/-! the desk: what is demanded; rough -/
/-- the outcome of a call -/
def Cres (Q : Option Value ⊕ Nat → zx → Prop) (R : Nat → zr) (T : Nat) (ng : Bool) (o : Option (Nat × Int)) : Prop :=
  (∀ V s, fin o = some (V, s) → ∀ r v o' c, Q (.inl none) (zpu R T (ng && decide (V ≠ 0), V, s), r, v, o', c)) ∧ (fin o = none → ∀ r v o' c, Q (.inr 11) (R, r, v, o', c))
theorem cutV_room {V : Nat} {s w : Int} (h : V = 0 ∨ w ≤ s ∨ (dg V + (w - s).toNat + 8) / 9 ≤ 226) (hV : V < 10 ^ 2034) : cutV V s w < 10 ^ 2034 := by
  by_cases e : V = 0
  · rw [e]
    unfold cutV
    rw [Nat.zero_mul, Nat.zero_div]
    exact pow10_pos _
  · by_cases c : w ≤ s
    · rw [(cutV_dn c).1]
      exact Nat.lt_of_le_of_lt (Nat.div_le_self _ _) hV
    · rw [(cutV_up (by omega)).1]
      have h1 := h.resolve_left e |>.resolve_left c
      have h2 := dg_mul_pow e (w - s).toNat
      have h3 := dg_lt (V * 10 ^ (w - s).toNat)
      exact Nat.lt_of_lt_of_le h3 (Nat.pow_le_pow_right (by decide) (by omega))
section LA
variable {l : Launch} {B : zd_B} {Q : Option Value ⊕ Nat → zx → Prop} {R : Nat → zr} {r : Int32 × Int32 × Int32} {v o c : Option Nat} {st : zx}
theorem j_reg (hG : zd_G B) (hl : l.stackTraces = false) {a : Int} (ha : iR a) (hq : ¬ (a < 0 ∨ 10 ≤ a) → Q (.inl none) st) (hx : (a < 0 ∨ 10 ≤ a) → Q (.inr 9) st) : zx_M l B m_De_demandRegister [.int (iI a)] st Q := by
  have h0 : iR 0 := ⟨by decide, by decide⟩
  have h10 : iR 10 := ⟨by decide, by decide⟩
  refine zx_go (okx_De_demandRegister hG hl) [] 200 ?_
  conv => whnf
  by_cases c1 : a < 0
  · refine ⟨fun _ => ?_, fun z => absurd ((iI_lt ha h0).mpr c1) z⟩
    conv => whnf
    exact ⟨hx (Or.inl c1), trivial⟩
  · refine ⟨fun z => absurd ((iI_lt ha h0).mp z) c1, fun _ => ?_⟩
    conv => whnf
    by_cases c2 : a < 10
    · refine ⟨fun _ => ?_, fun z => absurd ((iI_lt ha h10).mpr c2) z⟩
      conv => whnf
      exact ⟨hq (by omega), trivial⟩
    · refine ⟨fun z => absurd ((iI_lt ha h10).mp z) c2, fun _ => ?_⟩
      conv => whnf
      exact ⟨hx (by omega), trivial⟩
theorem j_mode (hG : zd_G B) (hl : l.stackTraces = false) {a : Int} (ha : iR a) (hq : ¬ (a < 0 ∨ 8 ≤ a) → Q (.inl none) st) (hx : (a < 0 ∨ 8 ≤ a) → Q (.inr 9) st) : zx_M l B m_De_demandMode [.int (iI a)] st Q := by
  have h0 : iR 0 := ⟨by decide, by decide⟩
  have h10 : iR 8 := ⟨by decide, by decide⟩
  refine zx_go (okx_De_demandMode hG hl) [] 200 ?_
  conv => whnf
  by_cases c1 : a < 0
  · refine ⟨fun _ => ?_, fun z => absurd ((iI_lt ha h0).mpr c1) z⟩
    conv => whnf
    exact ⟨hx (Or.inl c1), trivial⟩
  · refine ⟨fun z => absurd ((iI_lt ha h0).mp z) c1, fun _ => ?_⟩
    conv => whnf
    by_cases c2 : a < 8
    · refine ⟨fun _ => ?_, fun z => absurd ((iI_lt ha h10).mpr c2) z⟩
      conv => whnf
      exact ⟨hq (by omega), trivial⟩
    · refine ⟨fun z => absurd ((iI_lt ha h10).mp z) c2, fun _ => ?_⟩
      conv => whnf
      exact ⟨hx (by omega), trivial⟩
theorem j_reg2 (hG : zd_G B) (hl : l.stackTraces = false) {a b : Int} (ha : iR a) (hb : iR b) (hq : ¬ (a < 0 ∨ 10 ≤ a) → ¬ (b < 0 ∨ 10 ≤ b) → Q (.inl none) st) (hx : (a < 0 ∨ 10 ≤ a) ∨ (b < 0 ∨ 10 ≤ b) → Q (.inr 9) st) : zx_M l B m_De_demandRegisters2 [.int (iI a), .int (iI b)] st Q := by
  refine zx_go (okx_De_demandRegisters2 hG hl) [] 200 ?_
  conv => whnf
  refine j_reg hG hl ha (fun c1 => ?_) (fun c1 => hx (Or.inl c1))
  conv => whnf
  refine j_reg hG hl hb (fun c2 => ?_) (fun c2 => hx (Or.inr c2))
  conv => whnf
  exact ⟨hq c1 c2, trivial⟩
theorem j_reg3 (hG : zd_G B) (hl : l.stackTraces = false) {a b d : Int} (ha : iR a) (hb : iR b) (hd : iR d) (hq : ¬ (a < 0 ∨ 10 ≤ a) → ¬ (b < 0 ∨ 10 ≤ b) → ¬ (d < 0 ∨ 10 ≤ d) → Q (.inl none) st) (hx : (a < 0 ∨ 10 ≤ a) ∨ (b < 0 ∨ 10 ≤ b) ∨ (d < 0 ∨ 10 ≤ d) → Q (.inr 9) st) : zx_M l B m_De_demandRegisters3 [.int (iI a), .int (iI b), .int (iI d)] st Q := by
  refine zx_go (okx_De_demandRegisters3 hG hl) [] 200 ?_
  conv => whnf
  refine j_reg2 hG hl ha hb (fun c1 c2 => ?_) (fun c1 => hx (by omega))
  conv => whnf
  refine j_reg hG hl hd (fun c3 => ?_) (fun c3 => hx (Or.inr (Or.inr c3)))
  conv => whnf
  exact ⟨hq c1 c2 c3, trivial⟩
theorem j_prec (hG : zd_G B) (hl : l.stackTraces = false) {a b : Int} (ha : iR a) (hb : iR b) (hq : ¬ (a < b ∨ 1000 < a) → Q (.inl none) st) (hx : (a < b ∨ 1000 < a) → Q (.inr 9) st) : zx_M l B m_De_demandPrecision [.int (iI a), .int (iI b)] st Q := by
  have h10 : iR 1000 := ⟨by decide, by decide⟩
  refine zx_go (okx_De_demandPrecision hG hl) [] 200 ?_
  conv => whnf
  by_cases c1 : a < b
  · refine ⟨fun _ => ?_, fun z => absurd ((iI_lt ha hb).mpr c1) z⟩
    conv => whnf
    exact ⟨hx (Or.inl c1), trivial⟩
  · refine ⟨fun z => absurd ((iI_lt ha hb).mp z) c1, fun _ => ?_⟩
    conv => whnf
    by_cases c2 : a ≤ 1000
    · refine ⟨fun _ => ?_, fun z => absurd ((iI_le ha h10).mpr c2) z⟩
      conv => whnf
      exact ⟨hq (by omega), trivial⟩
    · refine ⟨fun z => absurd ((iI_le ha h10).mp z) c2, fun _ => ?_⟩
      conv => whnf
      exact ⟨hx (by omega), trivial⟩
theorem j_isScale (hG : zd_G B) (hl : l.stackTraces = false) {s : Int} (hs : lR s) (hq : Q (.inl (some (.int (bI (decide (-10000 ≤ s ∧ s ≤ 10000)))))) st) : zx_M l B m_De_isScale [.long (lI s)] st Q := by
  refine zx_go (okx_De_isScale hG hl) [] 200 ?_
  conv => whnf
  rw [show (-10000 : Int64) = lI (-10000) by decide]
  by_cases c1 : s < -10000
  · rw [decide_eq_false (by omega)] at hq
    refine ⟨fun _ => ?_, fun z => absurd ((cmp_lt _ _).mpr ((lI_lt hs ⟨by decide, by decide⟩).mpr c1)) z⟩
    conv => whnf
    exact ⟨⟨false, rfl, hq⟩, trivial⟩
  · refine ⟨fun z => absurd ((lI_lt hs ⟨by decide, by decide⟩).mp ((cmp_lt _ _).mp z)) c1, fun _ => ?_⟩
    conv => whnf
    by_cases c2 : 10000 < s
    · rw [decide_eq_false (by omega)] at hq
      refine ⟨fun _ => ?_, fun z => absurd ((cmp_gt _ _).mpr ((lI_lt (a := 10000) ⟨by decide, by decide⟩ hs).mpr c2)) z⟩
      conv => whnf
      exact ⟨⟨false, rfl, hq⟩, trivial⟩
    · rw [decide_eq_true (by omega)] at hq
      refine ⟨fun z => absurd ((lI_lt (a := 10000) ⟨by decide, by decide⟩ hs).mp ((cmp_gt _ _).mp z)) c2, fun _ => ?_⟩
      conv => whnf
      exact ⟨⟨true, rfl, hq⟩, trivial⟩
theorem j_wscale (hG : zd_G B) (hl : l.stackTraces = false) {s : Int} (hs : iR s) (hq : -10000 ≤ s → s ≤ 10000 → Q (.inl none) st) (hx : (s < -10000 ∨ 10000 < s) → Q (.inr 9) st) : zx_M l B m_De_demandWantedScale [.int (iI s)] st Q := by
  have hs1 := hs.1
  have hs2 := hs.2
  refine zx_go (okx_De_demandWantedScale hG hl) [] 200 ?_
  conv => whnf
  rw [iI_l hs]
  refine j_isScale hG hl ⟨by omega, by omega⟩ ?_
  conv => whnf
  by_cases c1 : -10000 ≤ s ∧ s ≤ 10000
  · rw [decide_eq_true c1]
    refine ⟨fun _ => ?_, fun z => absurd z (by decide)⟩
    conv => whnf
    exact ⟨hq c1.1 c1.2, trivial⟩
  · rw [decide_eq_false c1]
    refine ⟨fun z => absurd rfl z, fun _ => ?_⟩
    conv => whnf
    exact ⟨hx (by omega), trivial⟩
theorem j_scale (hG : zd_G B) (hl : l.stackTraces = false) {s : Int} (hs : lR s) (hq : -10000 ≤ s → s ≤ 10000 → Q (.inl none) st) (hx : (s < -10000 ∨ 10000 < s) → Q (.inr 11) st) : zx_M l B m_De_demandScale [.long (lI s)] st Q := by
  refine zx_go (okx_De_demandScale hG hl) [] 200 ?_
  conv => whnf
  refine j_isScale hG hl hs ?_
  conv => whnf
  by_cases c1 : -10000 ≤ s ∧ s ≤ 10000
  · rw [decide_eq_true c1]
    refine ⟨fun _ => ?_, fun z => absurd z (by decide)⟩
    conv => whnf
    exact ⟨hq c1.1 c1.2, trivial⟩
  · rw [decide_eq_false c1]
    refine ⟨fun z => absurd rfl z, fun _ => ?_⟩
    conv => whnf
    exact ⟨hx (by omega), trivial⟩
theorem j_digits47 (hG : zd_G B) (hl : l.stackTraces = false) {V : Nat} (hd : dg V < 2 ^ 31) (hq : dg V ≤ 1000 → Q (.inl none) (R, r, some V, o, c)) (hx : 1000 < dg V → Q (.inr 11) (R, r, some V, o, c)) : zx_M l B m_De_demandDigits [.ref 47] (R, r, some V, o, c) Q := by
  refine zx_go (okx_De_demandDigits hG hl) [] 200 ?_
  conv => whnf
  refine ⟨rc_47, ?_⟩
  refine x_digits47 hG hl ?_
  conv => whnf
  by_cases c1 : dg V ≤ 1000
  · refine ⟨fun _ => ?_, fun z => absurd ((nI_leI (b := 1000) hd (by decide)).mpr c1) z⟩
    conv => whnf
    exact ⟨hq c1, trivial⟩
  · refine ⟨fun z => absurd ((nI_leI (b := 1000) hd (by decide)).mp z) c1, fun _ => ?_⟩
    conv => whnf
    exact ⟨hx (by omega), trivial⟩
theorem j_digits51 (hG : zd_G B) (hl : l.stackTraces = false) {V : Nat} (hd : dg V < 2 ^ 31) (hq : dg V ≤ 1000 → Q (.inl none) (R, r, v, o, some V)) (hx : 1000 < dg V → Q (.inr 11) (R, r, v, o, some V)) : zx_M l B m_De_demandDigits [.ref 51] (R, r, v, o, some V) Q := by
  refine zx_go (okx_De_demandDigits hG hl) [] 200 ?_
  conv => whnf
  refine ⟨rc_51, ?_⟩
  refine x_digits51 hG hl ?_
  conv => whnf
  by_cases c1 : dg V ≤ 1000
  · refine ⟨fun _ => ?_, fun z => absurd ((nI_leI (b := 1000) hd (by decide)).mpr c1) z⟩
    conv => whnf
    exact ⟨hq c1, trivial⟩
  · refine ⟨fun z => absurd ((nI_leI (b := 1000) hd (by decide)).mp z) c1, fun _ => ?_⟩
    conv => whnf
    exact ⟨hx (by omega), trivial⟩
theorem j_divisor (hG : zd_G B) (hl : l.stackTraces = false) {i : Nat} (hi : i < 10) (hq : (R i).2.1 ≠ 0 → Q (.inl none) (R, r, v, o, c)) (hx : (R i).2.1 = 0 → Q (.inr 11) (R, r, v, o, c)) : zx_M l B m_De_demandDivisor [.ref (2 + 3 * i : Nat)] (R, r, v, o, c) Q := by
  refine zx_go (okx_De_demandDivisor hG hl) [] 200 ?_
  conv => whnf
  refine ⟨i, rfl, hi, ?_⟩
  conv => whnf
  refine ⟨(rc_n hi), ?_⟩
  refine x_isZeroR hG hl hi ?_
  conv => whnf
  by_cases c1 : (R i).2.1 = 0
  · rw [decide_eq_true c1]
    refine ⟨fun z => absurd z (by decide), fun _ => ?_⟩
    conv => whnf
    exact ⟨hx c1, trivial⟩
  · rw [decide_eq_false c1]
    refine ⟨fun _ => ?_, fun z => absurd rfl z⟩
    conv => whnf
    exact ⟨hq c1, trivial⟩
theorem j_keep (hG : zd_G B) (hl : l.stackTraces = false) {T V : Nat} {ng : Bool} {s : Int} {lo : Int32} (hT : T < 10) (hs : iR s) (hd : dg V < 2 ^ 31) (hq : Cres Q R T ng (some (V, s))) : zx_M l B m_De_keep [.ref 0, .int (nI T)] (R, (bI ng, iI s, lo), some V, o, c) Q := by
  have hs1 := hs.1
  have hs2 := hs.2
  obtain ⟨h1, h2⟩ := hq
  rw [fin_some] at h1 h2
  refine zx_go (okx_De_keep hG hl) [] 200 ?_
  conv => whnf
  rw [iI_l hs]
  refine j_scale hG hl ⟨by omega, by omega⟩ (fun c1 c2 => ?_) (fun c1 => h2 (if_neg (by omega)) _ _ _ _)
  conv => whnf
  refine j_digits47 hG hl hd (fun c3 => ?_) (fun c3 => h2 (if_neg (by omega)) _ _ _ _)
  conv => whnf
  refine ⟨T, rfl, hT, ?_⟩
  conv => whnf
  refine ⟨(rc_d hT), ?_⟩
  refine x_accept hG hl hT c3 ?_
  conv => whnf
  exact ⟨h1 V s (if_pos ⟨c3, c1, c2⟩) _ _ _ _, trivial⟩
theorem j_describe (hG : zd_G B) (hl : l.stackTraces = false) {b : Bool} {x : Int32} (hq : Q (.inl none) (R, (bI b, x, bI false), v, o, c)) : zx_M l B m_Ru_describe [.ref 46, .int (bI b), .int x] (R, r, v, o, c) Q := by
  refine zx_go (okx_Ru_describe hG hl) [] 200 ?_
  conv => whnf
  refine ⟨b, rfl, ?_⟩
  conv => whnf
  refine ⟨false, rfl, ?_⟩
  conv => whnf
  exact ⟨hq, trivial⟩
theorem j_take (hG : zd_G B) (hl : l.stackTraces = false) {i : Nat} (hi : i < 10) (hq : Q (.inl none) (R, (bI (R i).1, iI (R i).2.2, bI false), some (R i).2.1, o, c)) : zx_M l B m_Ru_take [.ref 46, .ref (2 + 3 * i : Nat)] (R, r, v, o, c) Q := by
  refine zx_go (okx_Ru_take hG hl) [] 200 ?_
  conv => whnf
  refine ⟨i, rfl, hi, ?_⟩
  conv => whnf
  refine ⟨rc_47, ?_⟩
  refine x_copy47r hG hl hi ?_
  conv => whnf
  refine ⟨i, rfl, hi, ?_⟩
  conv => whnf
  refine ⟨i, rfl, hi, ?_⟩
  conv => whnf
  refine ⟨rc_46, ?_⟩
  refine j_describe hG hl ?_
  conv => whnf
  exact ⟨hq, trivial⟩
theorem j_cutTo (hG : zd_G B) (hl : l.stackTraces = false) {V : Nat} {n : Int32} {s w : Int} {lo : Bool} (hp : -100000 < w - s ∧ w - s < 100000)
    (hq : (V = 0 ∨ w ≤ s ∨ (dg V + (w - s).toNat + 8) / 9 ≤ 226) → Q (.inl none) (R, (n, iI w, bI (lo || cutL V s w)), some (cutV V s w), o, c))
    (hx : V ≠ 0 → s < w → 226 < (dg V + (w - s).toNat + 8) / 9 → Q (.inr 11) (R, (n, iI s, bI lo), some V, o, c)) : zx_M l B m_Ru_cutTo [.ref 46, .int (iI w)] (R, (n, iI s, bI lo), some V, o, c) Q := by
  refine zx_go (okx_Ru_cutTo hG hl) [31] 200 ?_
  conv => whnf
  refine ⟨rc_47, ?_⟩
  rw [iI_sub]
  refine x_move47 hG hl hp (fun lost a1 a2 a3 => ?_) (fun a1 a2 a3 => hx a1 (by omega) a3)
  have hq := hq (by rcases a1 with q | q | q; exact Or.inl q; exact Or.inr (Or.inl (by omega)); exact Or.inr (Or.inr q))
  have eV : cutV V s w = V * 10 ^ (w - s).toNat / 10 ^ (-(w - s)).toNat := by unfold cutV; rw [show -(w - s) = s - w by omega]
  have eL : cutL V s w = decide (lost = 1) := by
    unfold cutL
    rw [show s - w = -(w - s) by omega]
    by_cases e : lost = 1
    · rw [decide_eq_true e, decide_eq_true (a3.mp e)]
    · rw [decide_eq_false e, decide_eq_false (fun q => e (a3.mpr q))]
  rw [eV, eL] at hq
  have fin : zx_W l B m_Ru_cutTo 31 [some (.ref 46), some (.int (iI w)), some (.int (nI lost))] [.int (bI (lo || decide (lost = 1))), .ref 46] (R, (n, iI s, bI lo), some (V * 10 ^ (w - s).toNat / 10 ^ (-(w - s)).toNat), o, c) Q := by
    refine zx_go (okx_Ru_cutTo hG hl) [] 200 ?_
    conv => whnf
    refine ⟨(lo || decide (lost = 1)), rfl, ?_⟩
    conv => whnf
    exact ⟨hq, trivial⟩
  conv => whnf
  cases lo
  · refine ⟨fun z => absurd rfl z, fun _ => ?_⟩
    conv => whnf
    by_cases e : lost = 1
    · rw [decide_eq_true e] at fin
      refine ⟨fun z => absurd ((nI_z (by omega)).mp z) (by omega), fun _ => ?_⟩
      conv => whnf
      refine ⟨?_, trivial⟩
      try dsimp only
      exact fin
    · rw [decide_eq_false e] at fin
      refine ⟨fun _ => ?_, fun z => absurd ((nI_z (by omega)).mpr (by omega)) z⟩
      conv => whnf
      refine ⟨?_, trivial⟩
      try dsimp only
      exact fin
  · refine ⟨fun _ => ?_, fun z => absurd z (show ¬ bI true = 0 by decide)⟩
    conv => whnf
    refine ⟨?_, trivial⟩
    try dsimp only
    exact fin
end LA

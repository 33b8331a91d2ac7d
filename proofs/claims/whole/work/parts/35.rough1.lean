/-! Decimal and Rough -/
def bI (b : Bool) : Int32 := cond b 1 0
theorem bI_z {b : Bool} : bI b = 0 ↔ b = false := by cases b <;> simp [bI]
def Dc (B : zd_B) (h : zd_H) (k : Nat) (neg : Bool) (V : Nat) (s : Int) : Prop := zd_Ob B h (zd_b0 B + k) 1 [.ref (zd_b0 B + (k + 1)), .int (bI neg), .int (iI s)] ∧ Nv B h (k + 1) 112 V
def Ru (B : zd_B) (h : zd_H) (neg : Bool) (V : Nat) (s : Int) (lost : Bool) : Prop := zd_Ob B h (zd_b0 B + 46) 6 [.ref (zd_b0 B + 47), .int (bI neg), .int (iI s), .int (bI lost)] ∧ Nv B h 47 226 V
/-- Rough, whatever it holds -/
def RuS (B : zd_B) (h : zd_H) : Prop := ∃ a b c : Int32, zd_Ob B h (zd_b0 B + 46) 6 [.ref (zd_b0 B + 47), .int a, .int b, .int c] ∧ Ns B h 47 226
theorem Ru.s {B : zd_B} {h : zd_H} {neg lost : Bool} {V : Nat} {s : Int} (a : Ru B h neg V s lost) : RuS B h := ⟨_, _, _, a.1, a.2.s⟩
theorem Ru.keptE {B : zd_B} {h h' : zd_H} {neg lost : Bool} {V d : Nat} {s : Int} (a : Ru B h neg V s lost) (f : Fg B h h' E0 d) : Ru B h' neg V s lost := ⟨f.ob a.1 (fun z => z), a.2.keptE f⟩
theorem Ru.kc {B : zd_B} {h h' : zd_H} {neg lost : Bool} {V d : Nat} {s : Int} {ks : List Nat} (a : Ru B h neg V s lost) (f : Fg B h h' (CL B ks) d) (hk : (ks.contains 46 || (ks.contains 47 || ks.contains 48)) = false) : Ru B h' neg V s lost := by
  obtain ⟨h1, h2⟩ := Bool.or_eq_false_iff.mp hk
  exact ⟨f.obc a.1 h1, a.2.kc f h2⟩
theorem Dc.kc {B : zd_B} {h h' : zd_H} {neg : Bool} {k V d : Nat} {s : Int} {ks : List Nat} (a : Dc B h k neg V s) (f : Fg B h h' (CL B ks) d) (hk : (ks.contains k || (ks.contains (k + 1) || ks.contains (k + 1 + 1))) = false) : Dc B h' k neg V s := by
  obtain ⟨h1, h2⟩ := Bool.or_eq_false_iff.mp hk
  exact ⟨f.obc a.1 h1, a.2.kc f h2⟩
/-- cut, or lengthened, from the scale s to the scale w -/
def cutV (V : Nat) (s w : Int) : Nat := V * 10 ^ (w - s).toNat / 10 ^ (s - w).toNat
def cutL (V : Nat) (s w : Int) : Bool := decide (V % 10 ^ (s - w).toNat ≠ 0)
/-- outwards, or not -/
def outw (md : Nat) (neg : Bool) (guard : Nat) (beyond : Bool) (q : Nat) : Bool :=
  match md with
  | 0 => true
  | 2 => !neg
  | 3 => neg
  | 4 => decide (5 ≤ guard)
  | 5 => decide (5 < guard) || (decide (guard = 5) && beyond)
  | 6 => decide (5 < guard) || (decide (guard = 5) && (beyond || decide (q % 10 % 2 ≠ 0)))
  | _ => false
/-- q, and guard and beyond behind it, rounded -/
def rnd (md : Nat) (neg : Bool) (q guard : Nat) (beyond : Bool) : Option Nat := if guard = 0 ∧ beyond = false then some q else if md = 7 then none else some (q + (outw md neg guard beyond q).toNat)
section UA
variable {l : Launch} {B : zd_B} {h : zd_H} {Q : zd_O → zd_H → Prop}
theorem c_Dc_sign (hG : zd_G B) (hl : l.stackTraces = false) {k V : Nat} {neg : Bool} {s : Int} (hD : Dc B h k neg V s) (hq : Q (.inl (some (.int (iI (if V = 0 then 0 else if neg then -1 else 1))))) h) : zd_M l B m_Dc_sign [.ref (zd_b0 B + k)] h Q := by
  obtain ⟨fs, ob⟩ := hD.2.ob
  refine zd_go (ok_Dc_sign hG hl) [] 60 ?_
  conv => whnf
  refine ⟨_, hD.1, ?_⟩
  conv => whnf
  refine ⟨⟨_, ob⟩, ⟨rfl, Nat.le_of_ble_eq_true rfl, Nat.le_of_ble_eq_true rfl⟩, ?_⟩
  refine v_isZero hG hl hD.2 ?_
  by_cases e : V = 0
  · rw [if_pos e] at hq ⊢
    conv => whnf
    refine ⟨fun z => absurd z (by decide), fun z => ?_⟩
    conv => whnf
    refine ⟨rfl, ?_, trivial⟩
    exact hq
  · rw [if_neg e] at hq ⊢
    conv => whnf
    refine ⟨fun z => ?_, fun z => absurd rfl z⟩
    conv => whnf
    refine ⟨_, hD.1, ?_⟩
    conv => whnf
    cases neg
    · refine ⟨fun z => ?_, fun z => absurd rfl z⟩
      conv => whnf
      refine ⟨rfl, ?_, trivial⟩
      exact hq
    · refine ⟨fun z => absurd z (by decide), fun z => ?_⟩
      conv => whnf
      refine ⟨rfl, ?_, trivial⟩
      exact hq
theorem c_Ru_describe (hG : zd_G B) (hl : l.stackTraces = false) {neg : Bool} {s : Int} (hR : RuS B h)
    (hq : ∀ h', Fg B h h' (CL B [46]) 0 → zd_Ob B h' (zd_b0 B + 46) 6 [.ref (zd_b0 B + 47), .int (bI neg), .int (iI s), .int (bI false)] → Q (.inl none) h') : zd_M l B m_Ru_describe [.ref (zd_b0 B + 46), .int (bI neg), .int (iI s)] h Q := by
  obtain ⟨a, b, c, ho, hN⟩ := hR
  have s46 : CL B [46] (zd_b0 B + 46) := ⟨46, by decide, rfl⟩
  refine zd_go (ok_Ru_describe hG hl) [] 60 ?_
  conv => whnf
  refine ⟨_, ho, Nat.le_of_ble_eq_true rfl, by cases neg <;> exact ⟨rfl, rfl⟩, ?_⟩
  conv => whnf
  refine ⟨_, ⟨ho.1, zd_set_s⟩, Nat.le_of_ble_eq_true rfl, ⟨rfl, rfl⟩, ?_⟩
  conv => whnf
  refine ⟨_, ⟨ho.1, zd_set_s⟩, Nat.le_of_ble_eq_true rfl, ⟨rfl, rfl⟩, ?_⟩
  conv => whnf
  exact ⟨hq _ (((Fg.set s46).set2 s46).set2 s46) ⟨ho.1, zd_set_s⟩, trivial⟩
theorem c_Ru_take (hG : zd_G B) (hl : l.stackTraces = false) {k V : Nat} {neg : Bool} {s : Int} (hR : RuS B h) (hD : Dc B h k neg V s) (hk : k + 2 < 46) (hr : Rm h)
    (hq : ∀ h', Fg B h h' (CL B [46, 47, 48]) 0 → Ru B h' neg V s false → Q (.inl none) h') : zd_M l B m_Ru_take [.ref (zd_b0 B + 46), .ref (zd_b0 B + k)] h Q := by
  obtain ⟨a, b, c, ho, hN⟩ := hR
  obtain ⟨fs, ob⟩ := hN.ob
  refine zd_go (ok_Ru_take hG hl) [] 60 ?_
  conv => whnf
  refine ⟨_, ho, ?_⟩
  conv => whnf
  refine ⟨_, hD.1, ?_⟩
  conv => whnf
  refine ⟨⟨_, ob⟩, ⟨rfl, Nat.le_of_ble_eq_true rfl, Nat.le_of_ble_eq_true rfl⟩, ?_⟩
  refine v_copy hG hl hN hD.2 (by omega) hr (fun h1 a1 a2 a3 => ?_) (fun h1 a1 a2 => absurd hD.2.nl (by omega))
  have d1 := a2.ob hD.1 (NS_o (by omega))
  have o1 := a2.ob ho (NS_o (by omega))
  conv => whnf
  refine ⟨_, d1, ?_⟩
  conv => whnf
  refine ⟨_, d1, ?_⟩
  conv => whnf
  refine ⟨⟨_, o1⟩, ⟨rfl, Nat.le_of_ble_eq_true rfl, Nat.le_of_ble_eq_true rfl⟩, ?_⟩
  refine c_Ru_describe hG hl ⟨_, _, _, o1, a3.s⟩ (fun h2 b1 b2 => ?_)
  conv => whnf
  exact ⟨hq h2 ((a2.mono (NS.cl (by decide))).tr0 (b1.mono (CL.mono (by decide)))) ⟨b2, a3.kc b1 (by decide)⟩, trivial⟩
theorem c_Ru_cutTo (hG : zd_G B) (hl : l.stackTraces = false) {V : Nat} {neg lost : Bool} {s w : Int} (hR : Ru B h neg V s lost) (hs : iR s) (hw : iR w) (hp : -100000 < w - s ∧ w - s < 100000) (hr : Rm h)
    (hq : ∀ h', (V = 0 ∨ w ≤ s ∨ (dg V + (w - s).toNat + 8) / 9 ≤ 226) → Fg B h h' (CL B [46, 47, 48]) 0 → Ru B h' neg (cutV V s w) w (lost || cutL V s w) → Q (.inl none) h')
    (hth : ∀ h', V ≠ 0 → s < w → 226 < (dg V + (w - s).toNat + 8) / 9 → Fx B h h' E0 11 → Q (.inr (zd_b0 B + h.1, 11)) h') : zd_M l B m_Ru_cutTo [.ref (zd_b0 B + 46), .int (iI w)] h Q := by
  obtain ⟨fs, ob⟩ := hR.2.ob
  have s46 : CL B [46, 47, 48] (zd_b0 B + 46) := ⟨46, by decide, rfl⟩
  refine zd_go (ok_Ru_cutTo hG hl) [31] 60 ?_
  conv => whnf
  refine ⟨_, hR.1, ?_⟩
  conv => whnf
  refine ⟨_, hR.1, ?_⟩
  conv => whnf
  refine ⟨⟨_, ob⟩, ⟨rfl, Nat.le_of_ble_eq_true rfl, Nat.le_of_ble_eq_true rfl⟩, ?_⟩
  rw [iI_sub]
  refine v_move hG hl hR.2 hp hr (fun h1 ls a1 a2 a3 a4 a5 => ?_) (fun h1 a1 a2 a3 a4 => hth h1 a1 (by omega) a3 a4)
  have o1 := a2.ob hR.1 (NS_o (by omega))
  rw [show -(w - s) = s - w by omega] at a3 a5
  have fin : zd_W l B m_Ru_cutTo 31 [some (.ref (zd_b0 B + 46)), some (.int (iI w)), some (.int (nI ls))] [.int (bI (lost || cutL V s w)), .ref (zd_b0 B + 46)] h1 Q := by
    refine zd_go (ok_Ru_cutTo hG hl) [] 60 ?_
    conv => whnf
    refine ⟨_, o1, Nat.le_of_ble_eq_true rfl, by cases (lost || cutL V s w) <;> exact ⟨rfl, rfl⟩, ?_⟩
    conv => whnf
    refine ⟨_, ⟨o1.1, zd_set_s⟩, Nat.le_of_ble_eq_true rfl, ⟨rfl, rfl⟩, ?_⟩
    conv => whnf
    have ff : Fg B h1 (zd_set (zd_set h1 (zd_b0 B + 46) (.inl (6, [.ref (zd_b0 B + 47), .int (bI neg), .int (iI s), .int (bI (lost || cutL V s w))]))) (zd_b0 B + 46) (.inl (6, [.ref (zd_b0 B + 47), .int (bI neg), .int (iI w), .int (bI (lost || cutL V s w))]))) (CL B [46]) 0 := (Fg.set ⟨46, by decide, rfl⟩).set2 ⟨46, by decide, rfl⟩
    refine ⟨hq _ ?_ ((a2.mono (NS.cl (by decide))).tr0 (ff.mono (CL.mono (by decide)))) ⟨⟨o1.1, zd_set_s⟩, a3.kc ff (by decide)⟩, trivial⟩
    rcases a1 with q | q | q
    · exact Or.inl q
    · exact Or.inr (Or.inl (by omega))
    · exact Or.inr (Or.inr q)
  conv => whnf
  refine ⟨_, o1, ?_⟩
  conv => whnf
  cases lost
  · refine ⟨fun z => absurd rfl z, fun z => ?_⟩
    conv => whnf
    by_cases e : ls = 1
    · have el : cutL V s w = true := decide_eq_true (a5.mp e)
      rw [el] at fin
      subst e
      refine ⟨fun z => absurd z (by decide), fun z => ?_⟩
      conv => whnf
      exact ⟨fin, trivial⟩
    · have el : cutL V s w = false := decide_eq_false (fun q => e (a5.mpr q))
      have e0 : ls = 0 := by omega
      rw [el] at fin
      subst e0
      refine ⟨fun z => ?_, fun z => absurd nI_0 z⟩
      conv => whnf
      exact ⟨fin, trivial⟩
  · refine ⟨fun z => ?_, fun z => absurd z (by decide)⟩
    conv => whnf
    exact ⟨fin, trivial⟩
end UA

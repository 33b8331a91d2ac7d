/-! the model: its state -/
def mS (t ln sz : Nat) (sc : Int) (mo be : Bool) (ts us lz pr fa : Nat) (D K Mn : Nat → Nat) (Mi : Nat → Bool) (Sc : Nat → Int) (rw tp un lf pa : Nat → Nat) : zst :=
  ([.int (nI t), .ref 54, .int (nI ln), .ref 55, .ref 56, .ref 57, .ref 58, .ref 59, .int (nI sz), .long (lI sc), .int (bI mo), .int (bI be), .ref 60, .int (nI ts), .ref 61, .int (nI us), .ref 62, .int (nI lz), .ref 63, .int (nI pr), .int (nI fa)],
   [fun i => nI (D i), fun i => nI (K i), fun i => nI (Mn i), fun i => bI (Mi i), fun i => iI (Sc i), fun i => nI (rw i), fun i => nI (tp i), fun i => nI (un i), fun i => nI (lf i), fun i => nI (pa i)])
theorem nI_ge0 {a b : Nat} (ha : a < 2 ^ 31) (hb : b < 2 ^ 31) : nI a ≥ nI b ↔ b ≤ a := nI_leI hb ha
theorem nI_z {a : Nat} (ha : a < 2 ^ 31) : nI a = 0 ↔ a = 0 := by
  rw [← nI_0]; exact nI_eq ha (by decide)
theorem nI_sub {a b : Nat} (h : b ≤ a) : nI a - nI b = nI (a - b) := by
  have : nI a = nI (a - b) + nI b := by rw [nI_add, Nat.sub_add_cancel h]
  rw [this, Int32.add_sub_cancel]
/-- the leading zeros -/
theorem lead_ex (g : Nat → Nat) (n : Nat) (hn : 0 < n) : ∃ z, z < n ∧ (∀ i, i < z → g i = 0) ∧ (z + 1 = n ∨ g z ≠ 0) := by
  induction n with
  | zero => omega
  | succ n ih =>
    rcases Nat.eq_zero_or_pos n with e | e
    · exact ⟨0, by omega, fun i hi => by omega, Or.inl (by omega)⟩
    · obtain ⟨z, a, b, c⟩ := ih e
      by_cases h : g z = 0
      · refine ⟨z + 1, by omega, fun i hi => ?_, Or.inl (by omega)⟩
        by_cases q : i = z
        · rw [q]; exact h
        · exact b i (by omega)
      · exact ⟨z, by omega, b, Or.inr h⟩
theorem lead_dg {g : Nat → Nat} {n z : Nat} (hd : ∀ i, g i < 10) (h1 : z < n) (h2 : ∀ i, i < z → g i = 0) (h3 : z + 1 = n ∨ g z ≠ 0) : dg (tv g n) = n - z := by
  rw [← tv_drop (Nat.le_of_lt h1) h2]
  by_cases e : g z = 0
  · have h4 : n - z = 1 := by rcases h3 with h3 | h3; omega; exact absurd e h3
    rw [h4]
    have : tv (fun i => g (z + i)) 1 = 0 := by
      show 0 * 10 + g (z + 0) = 0
      rw [Nat.add_zero, e]
    rw [this, dg_0]
  · exact tv_dg (by omega) (fun i _ => hd _) (by rw [Nat.add_zero]; exact e)
section KA
variable {l : Launch} {B : zd_B} {Q : Option Value → zst → Prop} {t ln sz : Nat} {sc : Int} {mo be : Bool} {ts us lz pr fa : Nat} {D K Mn : Nat → Nat} {Mi : Nat → Bool} {Sc : Nat → Int} {rw tp un lf pa : Nat → Nat}
/-- the zeros are counted -/
theorem w_trim1 (hG : zd_G B) (hl : l.stackTraces = false) (hs : sz ≤ 4400) (hd : ∀ i, rw i < 10) {zz : Nat} (z1 : zz < sz) (z2 : ∀ i, i < zz → rw i = 0) (z3 : zz + 1 = sz ∨ rw zz ≠ 0)
    (hq : zm_W l B gM m_Mo_trim 27 [some (.ref 53), some (.int (nI zz)), none] [] (mS t ln sz sc mo be ts us lz pr fa D K Mn Mi Sc rw tp un lf pa) Q) :
    ∀ (d i : Nat), i + d = zz → zm_W l B gM m_Mo_trim 2 [some (.ref 53), some (.int (nI i)), none] [] (mS t ln sz sc mo be ts us lz pr fa D K Mn Mi Sc rw tp un lf pa) Q := by
  intro d
  induction d with
  | zero =>
    intro i hi
    have e : i = zz := by omega
    subst e
    refine zm_go (okm_Mo_trim hG hl) [27] 200 ?_
    conv => whnf
    rw [nI_1]
    refine ⟨fun z => ?_, fun z => ?_⟩
    · refine ⟨?_, trivial⟩
      try dsimp only
      exact hq
    · have z' : ¬ sz ≤ i + 1 := fun q => z ((nI_ge0 (by omega) (by omega)).mpr q)
      conv => whnf
      refine ⟨i, rfl, by omega, ?_⟩
      conv => whnf
      refine ⟨fun z => ?_, fun z => ?_⟩
      · refine ⟨?_, trivial⟩
        try dsimp only
        exact hq
      · exact absurd ((nI_z (by have := hd i; omega)).mp z) (by omega)
  | succ d ih =>
    intro i hi
    refine zm_go (okm_Mo_trim hG hl) [2] 200 ?_
    conv => whnf
    rw [nI_1]
    refine ⟨fun z => ?_, fun z => ?_⟩
    · exact absurd ((nI_ge0 (by omega) (by omega)).mp z) (by omega)
    · conv => whnf
      refine ⟨i, rfl, by omega, ?_⟩
      conv => whnf
      refine ⟨fun z => ?_, fun z => ?_⟩
      · exact absurd ((nI_z (by have := hd i; omega)).mpr (z2 i (by omega))) z
      · conv => whnf
        refine ⟨?_, trivial⟩
        try dsimp only
        rw [nI_1]
        exact ih (i + 1) (by omega)
end KA

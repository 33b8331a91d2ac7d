/-! Divider: pure facts of the guess -/
/-- a factor makes the top limb at least half the base -/
theorem kn_top {t f : Nat} (h1 : 1 ≤ t) (h2 : t < 1000000000) (hf : f = 1000000000 / (t + 1)) : 500000000 ≤ t * f ∧ 1 ≤ f ∧ f ≤ 500000000 ∧ (t + 1) * f ≤ 1000000000 := by
  have e := Nat.div_add_mod 1000000000 (t + 1)
  have r := Nat.mod_lt 1000000000 (show 0 < t + 1 by omega)
  rw [← hf] at e
  have f1 : 1 ≤ f := by rw [hf]; exact (Nat.le_div_iff_mul_le (by omega)).mpr (by omega)
  have f2 : f ≤ 500000000 := by
    rw [hf]
    exact Nat.le_of_lt_succ ((Nat.div_lt_iff_lt_mul (by omega)).mpr (by omega))
  refine ⟨?_, f1, f2, by omega⟩
  generalize 1000000000 % (t + 1) = x at *
  rcases (show t = 1 ∨ 2 ≤ t by omega) with c | c
  · subst c
    have : f = 500000000 := by rw [hf]
    omega
  · rcases (show f = 1 ∨ 2 ≤ f by omega) with d | d
    · subst d
      omega
    · obtain ⟨a, rfl⟩ : ∃ a, f = a + 2 := ⟨f - 2, by omega⟩
      obtain ⟨b, rfl⟩ : ∃ b, t = b + 2 := ⟨t - 2, by omega⟩
      have q1 : (b + 2 + 1) * (a + 2) = b * a + 2 * b + 3 * a + 6 := by
        rw [Nat.mul_add, Nat.add_mul, Nat.add_mul]
        omega
      have q2 : (b + 2) * (a + 2) = b * a + 2 * b + 2 * a + 4 := by
        rw [Nat.mul_add, Nat.add_mul]
        omega
      rw [q1] at e
      rw [q2]
      omega
/-- what two limbs say of a quotient -/
def Kn (D W X Y : Nat) : Prop := ∃ s P D2 W2, 0 < s ∧ s * D = X * P + D2 ∧ D2 < P ∧ s * W = Y * P + W2 ∧ W2 < P
theorem Kn.le {D W X Y x : Nat} (k : Kn D W X Y) (h : x * D ≤ W) : x * X ≤ Y := by
  obtain ⟨s, P, D2, W2, hs, e1, l1, e2, l2⟩ := k
  have h1 : s * (x * D) ≤ s * W := Nat.mul_le_mul_left _ h
  rw [Nat.mul_left_comm, e1, e2, Nat.mul_add] at h1
  have h2 : x * (X * P) < (Y + 1) * P := by rw [Nat.add_mul, Nat.one_mul]; omega
  rw [← Nat.mul_assoc] at h2
  have := Nat.lt_of_mul_lt_mul_right h2
  omega
theorem Kn.ge {D W X Y x : Nat} (k : Kn D W X Y) (h : x * X ≤ Y) (hx : x ≤ 1000000000) (hX : 1000000000 ≤ X) : x * D ≤ W + D := by
  obtain ⟨s, P, D2, W2, hs, e1, l1, e2, l2⟩ := k
  have h1 : x * X * P ≤ Y * P := Nat.mul_le_mul_right _ h
  have h2 : x * D2 ≤ 1000000000 * P := Nat.mul_le_mul hx (Nat.le_of_lt l1)
  have h3 : 1000000000 * P ≤ X * P := Nat.mul_le_mul_right _ hX
  have h4 : s * (x * D) ≤ s * (W + D) := by
    rw [Nat.mul_left_comm, e1, Nat.mul_add s, e2, e1, Nat.mul_add, ← Nat.mul_assoc]
    omega
  exact Nat.le_of_mul_le_mul_left h4 hs
theorem kn_of1 {D W d1 head : Nat} (h1 : D = d1) (h2 : W = head) : Kn D W (d1 * 1000000000 + 0) (head * 1000000000 + 0) := ⟨1000000000, 1, 0, 0, by decide, by omega, by decide, by omega, by decide⟩
/-- the top two limbs of the divisor, the top three of what is divided -/
theorem kn_of2 {u v : Nat → Nat} {m at0 : Nat} (hu : ∀ i, u i < 1000000000) (hv : ∀ i, v i < 1000000000) :
    Kn (zv 1000000000 v (m + 2)) (zv 1000000000 (fun i => u (at0 + i)) (m + 3)) (v (m + 1) * 1000000000 + v m) ((u (at0 + (m + 2)) * 1000000000 + u (at0 + (m + 1))) * 1000000000 + u (at0 + m)) := by
  refine ⟨1, 1000000000 ^ m, zv 1000000000 v m, zv 1000000000 (fun i => u (at0 + i)) m, by decide, ?_, zv_lt (fun i _ => hv i), ?_, zv_lt (fun i _ => hu _)⟩
  · rw [Nat.one_mul, zv_succ, zv_succ, Nat.pow_succ, Nat.add_mul, Nat.mul_assoc, Nat.mul_comm (1000000000 ^ m)]
    omega
  · rw [Nat.one_mul, zv_succ, zv_succ, zv_succ, show m + 2 = m + 1 + 1 from rfl]
    simp only [Nat.pow_succ]
    generalize 1000000000 ^ m = P
    simp only [Nat.add_mul, Nat.mul_add, Nat.mul_assoc, Nat.mul_comm, Nat.mul_left_comm]
    omega
def Dvd (B : zd_B) (h : zd_H) (d : Nat) : Prop := zd_Ob B h (zd_b0 B + d) 2 [.ref (zd_b0 B + (d + 1))]
section DB
variable {l : Launch} {B : zd_B} {h : zd_H} {Q : zd_O → zd_H → Prop}
theorem w_Dv_guess116 (hG : zd_G B) (hl : l.stackTraces = false) {a0 a1 : Value} {a2 a3 : Int32} {q d1 sec th head : Nat} (hd1 : 500000000 ≤ d1) (hd2 : d1 < 1000000000) (hsec : sec < 1000000000) (hth : th < 1000000000) (hhead : head < d1 * 1000000000 + 1000000000) (hqB : q < 1000000000)
    (hqX : ∀ x, x ≤ q → x * (d1 * 1000000000 + sec) ≤ head * 1000000000 + th)
    (hq : ∀ x, x < 1000000000 → q ≤ x → x * (d1 * 1000000000 + sec) ≤ head * 1000000000 + th → Q (.inl (some (.long (lN x)))) h) :
    ∀ (d i guess left : Nat), i + d = 2 → left + guess * d1 = head → guess + i = head / d1 → q ≤ guess → zd_W l B m_Dv_guessLimb 116 [some a0, some a1, some (.int a2), some (.int a3), some (.long (lN d1)), none, some (.long (lN sec)), none, some (.long (lN th)), none, some (.long (lN head)), none, some (.long (lN guess)), none, some (.long (lN left)), none, some (.int (nI i))] [] h Q := by
  have hG1 : head / d1 ≤ 1000000001 := Nat.le_of_lt_succ ((Nat.div_lt_iff_lt_mul (by omega)).mpr (by omega))
  have key : ∀ guess left, left + guess * d1 = head → guess * sec ≤ left * 1000000000 + th → guess * (d1 * 1000000000 + sec) ≤ head * 1000000000 + th := by
    intro guess left e1 e2
    rw [Nat.mul_add, ← e1, Nat.add_mul, ← Nat.mul_assoc]
    omega
  have fin : ∀ guess left (i : Int32), guess < 1000000000 → q ≤ guess → guess * (d1 * 1000000000 + sec) ≤ head * 1000000000 + th → zd_W l B m_Dv_guessLimb 180 [some a0, some a1, some (.int a2), some (.int a3), some (.long (lN d1)), none, some (.long (lN sec)), none, some (.long (lN th)), none, some (.long (lN head)), none, some (.long (lN guess)), none, some (.long (lN left)), none, some (.int i)] [] h Q := by
    intro guess left i g1 g2 g3
    refine zd_go (ok_Dv_guessLimb hG hl) [] 60 ?_
    conv => whnf
    exact ⟨hq guess g1 g2 g3, trivial⟩
  intro d
  induction d with
  | zero =>
    intro i guess left hi e1 e2 e3
    have : i = 2 := by omega
    subst this
    refine zd_go (ok_Dv_guessLimb hG hl) [180] 60 ?_
    conv => whnf
    refine ⟨fun z => ?_, fun z => absurd (by decide) z⟩
    conv => whnf
    refine ⟨fin guess left _ (by omega) e3 (key guess left e1 ?_), trivial⟩
    have h1 : guess * sec ≤ 999999999 * 999999999 := Nat.mul_le_mul (by omega) (by omega)
    have h2 : head / d1 * d1 ≤ head := Nat.div_mul_le_self _ _
    rw [← e2, Nat.add_mul] at h2
    omega
  | succ d ih =>
    intro i guess left hi e1 e2 e3
    have gl : guess ≤ 1000000001 := by omega
    have hhb : head < 1000000000000000000 := by
      have : d1 * 1000000000 ≤ 999999999 * 1000000000 := Nat.mul_le_mul_right _ (by omega)
      omega
    have ll : left ≤ head := by omega
    refine zd_go (ok_Dv_guessLimb hG hl) [180, 116] 60 ?_
    conv => whnf
    refine ⟨fun z => absurd z (nI_ge (b := 2) (by omega) (by omega)), fun z => ?_⟩
    conv => whnf
    refine ⟨fun z => ?_, fun z => ?_⟩
    · have z' : 1000000000 ≤ left := (pk_lLE (a := 1000000000) (b := left) (by omega) (by omega)).mp ((lg_cmp_ge _ _).mp z)
      have gB : guess < 1000000000 := by
        have h1 : guess * d1 < 1000000000 * d1 := by omega
        exact Nat.lt_of_mul_lt_mul_right h1
      have h1 : guess * sec ≤ 999999999 * 999999999 := Nat.mul_le_mul (by omega) (by omega)
      conv => whnf
      exact ⟨fin guess left _ gB e3 (key guess left e1 (by omega)), trivial⟩
    · have z' : left < 1000000000 := by
        have : ¬ 1000000000 ≤ left := fun q => z ((lg_cmp_ge _ _).mpr ((pk_lLE (a := 1000000000) (b := left) (by omega) (by omega)).mpr q))
        omega
      conv => whnf
      refine ⟨fun z => ?_, fun z => ?_⟩
      · have z2 : 1000000000 ≤ guess := (pk_lLE (a := 1000000000) (b := guess) (by omega) (by omega)).mp ((lg_cmp_ge _ _).mp z)
        conv => whnf
        refine ⟨?_, trivial⟩
        obtain ⟨gg, rfl⟩ : ∃ gg, guess = gg + 1 := ⟨guess - 1, by omega⟩
        have := ih (i + 1) gg (left + d1) (by omega) (by rw [← e1, Nat.add_mul]; omega) (by omega) (by omega)
        rw [← nI_1 i, ← lN_add, show lN gg = lN (gg + 1) - 1 from (by rw [show (1 : Int64) = lN 1 from rfl, lN_sub (by omega)]; rfl)] at this
        exact this
      · have z2 : guess < 1000000000 := by
          have : ¬ 1000000000 ≤ guess := fun q => z ((lg_cmp_ge _ _).mpr ((pk_lLE (a := 1000000000) (b := guess) (by omega) (by omega)).mpr q))
          omega
        have h1 : guess * sec ≤ 999999999 * 999999999 := Nat.mul_le_mul (by omega) (by omega)
        have ea : lN guess * lN sec = lN (guess * sec) := lN_mul _ _
        have eb : lN left * 1000000000 + lN th = lN (left * 1000000000 + th) := by rw [show (1000000000 : Int64) = lN 1000000000 from rfl, lN_mul, lN_add]
        conv => whnf
        refine ⟨fun z => ?_, fun z => ?_⟩
        · rw [ea, eb] at z
          have z3 : left * 1000000000 + th < guess * sec := (pk_lLT (by omega) (by omega)).mp ((lg_cmp_gt _ _).mp z)
          have hqg : q < guess := by
            rcases Nat.lt_or_ge q guess with c | c
            · exact c
            · have := hqX guess c
              rw [Nat.mul_add, ← e1, Nat.add_mul, ← Nat.mul_assoc] at this
              omega
          conv => whnf
          refine ⟨?_, trivial⟩
          obtain ⟨gg, rfl⟩ : ∃ gg, guess = gg + 1 := ⟨guess - 1, by omega⟩
          have := ih (i + 1) gg (left + d1) (by omega) (by rw [← e1, Nat.add_mul]; omega) (by omega) (by omega)
          rw [← nI_1 i, ← lN_add, show lN gg = lN (gg + 1) - 1 from (by rw [show (1 : Int64) = lN 1 from rfl, lN_sub (by omega)]; rfl)] at this
          exact this
        · rw [ea, eb] at z
          have z3 : guess * sec ≤ left * 1000000000 + th := by
            have : ¬ left * 1000000000 + th < guess * sec := fun q => z ((lg_cmp_gt _ _).mpr ((pk_lLT (by omega) (by omega)).mpr q))
            omega
          conv => whnf
          exact ⟨fin guess left _ z2 e3 (key guess left e1 z3), trivial⟩
end DB

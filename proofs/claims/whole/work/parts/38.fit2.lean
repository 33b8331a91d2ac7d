/-! pure: the same precision by another road; roots; what a register can have -/
theorem tz_mul {a : Nat} (h : a % 10 ≠ 0) (d : Nat) : tz (a * 10 ^ d) = d := by
  refine tz_eq (Nat.mul_mod_left _ _) ?_
  intro e
  obtain ⟨w, hw⟩ := Nat.dvd_of_mod_eq_zero e
  have : a = 10 * w := by
    apply Nat.eq_of_mul_eq_mul_right (pow10_pos d)
    rw [hw, Nat.pow_succ, Nat.mul_comm (10 ^ d) 10, Nat.mul_assoc, Nat.mul_comm (10 ^ d) w, ← Nat.mul_assoc]
  omega
theorem tz_core {V : Nat} (h : V ≠ 0) : V / 10 ^ tz V * 10 ^ tz V = V ∧ V / 10 ^ tz V % 10 ≠ 0 := by
  obtain ⟨a, b⟩ := tz_spec V h
  have e := Nat.div_add_mod V (10 ^ tz V)
  rw [a, Nat.add_zero, Nat.mul_comm] at e
  refine ⟨e, fun q => b ?_⟩
  rw [Nat.pow_succ, Nat.mod_mul, a, q, Nat.mul_zero]
/-- the model's way to a precision -/
def fitM (prec : Nat) (wish : Int) (md : Nat) (neg : Bool) (V : Nat) (s : Int) (more : Bool) : Option (Nat × Int) :=
  if V = 0 ∧ more = false then some (0, wish)
  else if more = false ∧ dg V - tz V ≤ prec then some (V / 10 ^ tz V * 10 ^ (min (wish - (s - tz V)).toNat (prec - (dg V - tz V))), s - tz V + (min (wish - (s - tz V)).toNat (prec - (dg V - tz V)) : Nat))
  else match rnd md neg (V / 10 ^ (dg V - prec)) (V / 10 ^ (dg V - prec - 1) % 10) (more || decide (V % 10 ^ (dg V - prec - 1) ≠ 0)) with
  | none => none
  | some q => if dg q ≤ prec then some (q, s - (dg V - prec : Nat)) else some (q / 10, s - (dg V - prec : Nat) - 1)
theorem fit_M {prec : Nat} {wish : Int} {md : Nat} {neg : Bool} {V : Nat} {s : Int} {more : Bool} (hp : 1 ≤ prec) (h1 : V ≠ 0 ∨ more = false) (h2 : more = false ∨ prec + 1 ≤ dg V) : fit prec wish md neg V s more = fitM prec wish md neg V s more := by
  unfold fit fitM
  by_cases e : V = 0 ∧ more = false
  · rw [if_pos e, if_pos e]
  rw [if_neg e, if_neg e]
  have hV : V ≠ 0 := fun q => by
    rcases h1 with h1 | h1
    · exact h1 q
    · exact e ⟨q, h1⟩
  have hd := dg_pos V
  have ht := tz_lt_dg hV
  obtain ⟨c1, c2⟩ := tz_core hV
  by_cases x : more = false ∧ dg V - tz V ≤ prec
  · rw [if_pos x]
    obtain ⟨xm, xd⟩ := x
    subst xm
    have key : cutL V s (s + prec + 1 - dg V) = false ∧ cutV V s (s + prec + 1 - dg V) = V / 10 ^ tz V * 10 ^ (prec - (dg V - tz V)) * 10 := by
      by_cases q : prec + 1 ≤ dg V
      · obtain ⟨a, b⟩ := cutV_dn (V := V) (s := s) (w := s + prec + 1 - dg V) (by omega)
        rw [show (s - (s + (prec : Int) + 1 - dg V)).toNat = dg V - prec - 1 by omega] at a b
        have m := (tz_le hV (k := dg V - prec - 1)).mp (by omega)
        rw [a, b]
        refine ⟨by simp [m], ?_⟩
        have e2 : V = V / 10 ^ tz V * 10 ^ (prec - (dg V - tz V)) * 10 * 10 ^ (dg V - prec - 1) := by
          rw [Nat.mul_assoc, Nat.mul_assoc, ← Nat.pow_succ', ← Nat.pow_add, show prec - (dg V - tz V) + (dg V - prec - 1).succ = tz V by omega]
          exact c1.symm
        exact Nat.div_eq_of_eq_mul_left (pow10_pos _) e2
      · obtain ⟨a, b⟩ := cutV_up (V := V) (s := s) (w := s + prec + 1 - dg V) (by omega)
        rw [show (s + (prec : Int) + 1 - dg V - s).toNat = (prec - dg V) + 1 by omega] at a
        refine ⟨b, ?_⟩
        rw [a, Nat.pow_succ, ← Nat.mul_assoc]
        congr 1
        rw [show prec - (dg V - tz V) = tz V + (prec - dg V) by omega, Nat.pow_add, ← Nat.mul_assoc, c1]
    rw [key.1, key.2]
    unfold fitW
    rw [if_pos ⟨Nat.mul_mod_left _ _, rfl⟩, Nat.mul_div_cancel _ (by decide), tz_mul c2]
    generalize V / 10 ^ tz V = V0
    have e3 : prec - (dg V - tz V) = min (s + prec + 1 - dg V - 1 - wish).toNat (prec - (dg V - tz V)) + min (wish - (s - tz V)).toNat (prec - (dg V - tz V)) := by omega
    congr 2
    · conv => lhs; lhs; rw [e3, Nat.pow_add, Nat.mul_left_comm]
      rw [Nat.mul_div_cancel_left _ (pow10_pos _)]
    · omega
  · rw [if_neg x]
    have hl : prec + 1 ≤ dg V := by
      rcases h2 with h2 | h2
      · have : ¬ dg V - tz V ≤ prec := fun q => x ⟨h2, q⟩
        omega
      · exact h2
    obtain ⟨a, b⟩ := cutV_dn (V := V) (s := s) (w := s + prec + 1 - dg V) (by omega)
    rw [show (s - (s + (prec : Int) + 1 - dg V)).toNat = dg V - prec - 1 by omega] at a b
    rw [a, b]
    unfold fitW
    have nx : ¬ (V / 10 ^ (dg V - prec - 1) % 10 = 0 ∧ (more || decide (V % 10 ^ (dg V - prec - 1) ≠ 0)) = false) := by
      intro ⟨q1, q2⟩
      obtain ⟨q3, q4⟩ := Bool.or_eq_false_iff.mp q2
      have q5 := Decidable.not_not.mp (of_decide_eq_false q4)
      refine x ⟨q3, ?_⟩
      have : V % 10 ^ (dg V - prec - 1 + 1) = 0 := by rw [Nat.pow_succ, Nat.mod_mul, q5, q1, Nat.mul_zero]
      have := (tz_le hV).mpr this
      omega
    rw [if_neg nx, Nat.div_div_eq_div_mul, ← Nat.pow_succ, show (dg V - prec - 1).succ = dg V - prec by omega, show s + (prec : Int) + 1 - dg V - 1 = s - (dg V - prec : Nat) by omega, show s + (prec : Int) + 1 - dg V - 2 = s - (dg V - prec : Nat) - 1 by omega]
    cases rnd md neg (V / 10 ^ (dg V - prec)) (V / 10 ^ (dg V - prec - 1) % 10) (more || decide (V % 10 ^ (dg V - prec - 1) ≠ 0)) <;> rfl
/-- what a register can have -/
def fin (o : Option (Nat × Int)) : Option (Nat × Int) := o.bind fun r => if dg r.1 ≤ 1000 ∧ -10000 ≤ r.2 ∧ r.2 ≤ 10000 then some r else none
/-- exactly, at the wish or as near as can be -/
def fitX (wish : Int) (V : Nat) (s : Int) (more : Bool) : Option (Nat × Int) :=
  if more then none else if V = 0 then some (0, wish) else some (V / 10 ^ tz V * 10 ^ (wish - (s - tz V)).toNat, s - tz V + ((wish - (s - tz V)).toNat : Int))
theorem fit_X {wish : Int} {neg : Bool} {V : Nat} {s : Int} {more : Bool} (h1 : V ≠ 0 ∨ more = false) (h2 : more = false ∨ 1001 ≤ dg V) (h3 : V ≠ 0 → s - tz V < wish → more = false → dg (V / 10 ^ tz V * 10 ^ (wish - (s - tz V)).toNat) ≤ 1000) : fin (fit 1000 wish 7 neg V s more) = fin (fitX wish V s more) := by
  rw [fit_M (by decide) h1 h2]
  unfold fitM fitX
  by_cases e : V = 0 ∧ more = false
  · rw [if_pos e, e.2, e.1]; rfl
  rw [if_neg e]
  have hV : V ≠ 0 := fun q => by
    rcases h1 with h1 | h1
    · exact h1 q
    · exact e ⟨q, h1⟩
  obtain ⟨c1, c2⟩ := tz_core hV
  have ht := tz_lt_dg hV
  have c3 : V / 10 ^ tz V ≠ 0 := fun q => c2 (by rw [q])
  have c4 : dg (V / 10 ^ tz V) = dg V - tz V := dg_div_pow ht
  by_cases x : more = false ∧ dg V - tz V ≤ 1000
  · rw [if_pos x, x.1, if_neg hV]
    by_cases y : s - tz V < wish
    · have := h3 hV y x.1
      rw [dg_mul_pow c3, c4] at this
      rw [show min (wish - (s - tz V)).toNat (1000 - (dg V - tz V)) = (wish - (s - tz V)).toNat by omega]
      rfl
    · rw [show (wish - (s - tz V)).toNat = 0 by omega, Nat.zero_min]
      rfl
  · rw [if_neg x]
    have ng : ∀ q g b, ¬ (g = 0 ∧ b = false) → rnd 7 neg q g b = none := fun q g b h => by
      unfold rnd
      rw [if_neg h, if_pos rfl]
    rw [ng]
    · cases more
      · have : ¬ dg V - tz V ≤ 1000 := fun q => x ⟨rfl, q⟩
        rw [if_neg (by simp), if_neg hV]
        unfold fin
        show none = if _ then _ else none
        rw [if_neg]
        intro q
        have q1 := q.1
        rw [dg_mul_pow c3, c4] at q1
        omega
      · rfl
    · intro ⟨q1, q2⟩
      obtain ⟨q3, q4⟩ := Bool.or_eq_false_iff.mp q2
      have q5 := Decidable.not_not.mp (of_decide_eq_false q4)
      have q6 : 1001 ≤ dg V := by
        rcases h2 with h2 | h2
        · have : ¬ dg V - tz V ≤ 1000 := fun q => x ⟨q3, q⟩
          omega
        · exact h2
      refine x ⟨q3, ?_⟩
      have : V % 10 ^ (dg V - 1000 - 1 + 1) = 0 := by rw [Nat.pow_succ, Nat.mod_mul, q5, q1, Nat.mul_zero]
      have := (tz_le hV).mpr this
      omega
/-! roots -/
def isq : Nat → Nat
  | 0 => 0
  | n + 1 => if (isq n + 1) * (isq n + 1) ≤ n + 1 then isq n + 1 else isq n
theorem isq_s (X : Nat) : IsS (isq X) X := by
  induction X with
  | zero => exact ⟨Nat.le_refl 0, by decide⟩
  | succ n ih =>
    obtain ⟨a, b⟩ := ih
    unfold isq
    split
    · refine ⟨‹_›, ?_⟩
      have : (isq n + 1 + 1) * (isq n + 1 + 1) = (isq n + 1) * (isq n + 1) + (isq n + 1) + (isq n + 1) + 1 := by
        generalize isq n + 1 = w
        simp only [Nat.add_mul, Nat.mul_add]
        omega
      omega
    · exact ⟨by omega, by omega⟩
def rV (N : Nat) (s t : Int) : Nat := isq (cutV N s (2 * t))
def rL (N : Nat) (s t : Int) : Bool := cutL N s (2 * t) || decide (rV N s t * rV N s t ≠ cutV N s (2 * t))
theorem isq_div (X k : Nat) : isq (X / (10 ^ k * 10 ^ k)) = isq X / 10 ^ k := by
  have p := pow10_pos k
  obtain ⟨a, b⟩ := isq_s X
  refine (isq_s _).un ⟨?_, ?_⟩
  · rw [Nat.le_div_iff_mul_le (Nat.mul_pos p p)]
    have h1 := Nat.div_mul_le_self (isq X) (10 ^ k)
    have h2 := Nat.mul_le_mul h1 h1
    rw [Nat.mul_mul_mul_comm]
    omega
  · rw [Nat.div_lt_iff_lt_mul (Nat.mul_pos p p)]
    have h1 : isq X + 1 ≤ (isq X / 10 ^ k + 1) * 10 ^ k := by
      have := Nat.div_add_mod (isq X) (10 ^ k)
      have := Nat.mod_lt (isq X) p
      rw [Nat.add_mul, Nat.one_mul, Nat.mul_comm]
      omega
    have h2 := Nat.mul_le_mul h1 h1
    rw [Nat.mul_mul_mul_comm]
    omega
theorem isq_sq (a : Nat) : isq (a * a) = a := (isq_s _).un ⟨Nat.le_refl _, by simp only [Nat.add_mul, Nat.mul_add]; omega⟩
theorem rStr (N : Nat) (s : Int) : Str (rV N s) (rL N s) := by
  intro t k
  obtain ⟨a, b⟩ := cutStr N s (2 * t) (k + k)
  rw [show 2 * t + ((k + k : Nat) : Int) = 2 * (t + k) by omega, Nat.pow_add] at a b
  have e1 : rV N s t = rV N s (t + k) / 10 ^ k := by
    unfold rV
    rw [a, isq_div]
  refine ⟨e1, ?_⟩
  unfold rL
  rw [e1, a, b]
  generalize hc : cutL N s (2 * (t + k)) = L
  have hr : rV N s (t + k) = isq (cutV N s (2 * (t + k))) := rfl
  rw [hr]
  generalize cutV N s (2 * (t + k)) = X
  have p := pow10_pos k
  generalize 10 ^ k = P at p ⊢
  rw [Bool.eq_iff_iff, ← Decidable.not_iff_not]
  simp only [Bool.or_eq_true, decide_eq_true_eq, not_or, Decidable.not_not]
  constructor
  · intro ⟨⟨h1, h2⟩, h3⟩
    have e : X = (isq X / P * P) * (isq X / P * P) := by
      have := Nat.div_add_mod X (P * P)
      rw [h2, Nat.add_zero, ← h3] at this
      rw [Nat.mul_mul_mul_comm, Nat.mul_comm]
      exact this.symm
    have f : isq X = isq X / P * P := by
      conv => lhs; rw [e]
      exact isq_sq _
    refine ⟨⟨h1, ?_⟩, ?_⟩
    · rw [f]; exact e.symm
    · rw [f]; exact Nat.mul_mod_left _ _
  · intro ⟨⟨h1, h2⟩, h3⟩
    have f : isq X = isq X / P * P := by
      have := Nat.div_add_mod (isq X) P
      rw [h3, Nat.add_zero, Nat.mul_comm] at this
      exact this.symm
    have e : X = (isq X / P * (isq X / P)) * (P * P) := by
      rw [← Nat.mul_mul_mul_comm, ← f]
      exact h2.symm
    refine ⟨⟨h1, ?_⟩, ?_⟩
    · rw [e]; exact Nat.mul_mod_left _ _
    · conv => rhs; rw [e]
      rw [Nat.mul_div_cancel _ (Nat.mul_pos p p)]

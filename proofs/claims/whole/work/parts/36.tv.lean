/-! pure: rows of digits, the highest first -/
def tv (g : Nat → Nat) : Nat → Nat
  | 0 => 0
  | n + 1 => tv g n * 10 + g n
theorem tv_congr {g g' : Nat → Nat} {n : Nat} (h : ∀ i, i < n → g i = g' i) : tv g n = tv g' n := by
  induction n with
  | zero => rfl
  | succ n ih =>
    show tv g n * 10 + g n = tv g' n * 10 + g' n
    rw [ih (fun i hi => h i (by omega)), h n (by omega)]
theorem tv_lt {g : Nat → Nat} {n : Nat} (h : ∀ i, i < n → g i < 10) : tv g n < 10 ^ n := by
  induction n with
  | zero => simp [tv]
  | succ n ih =>
    have a := ih (fun i hi => h i (by omega))
    have b := h n (by omega)
    show tv g n * 10 + g n < 10 ^ (n + 1)
    rw [Nat.pow_succ]
    omega
theorem tv_split (g : Nat → Nat) (m n : Nat) : tv g (m + n) = tv g m * 10 ^ n + tv (fun i => g (m + i)) n := by
  induction n with
  | zero => simp [tv]
  | succ n ih =>
    show tv g (m + n) * 10 + g (m + n) = tv g m * 10 ^ (n + 1) + (tv (fun i => g (m + i)) n * 10 + g (m + n))
    rw [ih, Nat.pow_succ, Nat.add_mul, Nat.mul_assoc]
    omega
theorem tv_split2 {g : Nat → Nat} {m n : Nat} (h : m ≤ n) : tv g n = tv g m * 10 ^ (n - m) + tv (fun i => g (m + i)) (n - m) := by
  have := tv_split g m (n - m)
  rwa [show m + (n - m) = n by omega] at this
theorem tv_pre {g : Nat → Nat} {n k : Nat} (hk : k ≤ n) (h : ∀ i, i < n → g i < 10) : tv g n / 10 ^ (n - k) = tv g k := by
  rw [tv_split2 hk, Nat.mul_comm, Nat.mul_add_div (Nat.pow_pos (by decide)), Nat.div_eq_of_lt (tv_lt (fun i hi => h _ (by omega))), Nat.add_zero]
theorem tv_suf {g : Nat → Nat} {n k : Nat} (hk : k ≤ n) (h : ∀ i, i < n → g i < 10) : tv g n % 10 ^ (n - k) = tv (fun i => g (k + i)) (n - k) := by
  rw [tv_split2 hk, Nat.mul_comm, Nat.mul_add_mod, Nat.mod_eq_of_lt (tv_lt (fun i hi => h _ (by omega)))]
theorem tv_dig {g : Nat → Nat} {n k : Nat} (hk : k < n) (h : ∀ i, i < n → g i < 10) : tv g n / 10 ^ (n - 1 - k) % 10 = g k := by
  have e := tv_pre (g := g) (n := n) (k := k + 1) (by omega) h
  rw [show n - (k + 1) = n - 1 - k by omega] at e
  rw [e]
  show (tv g k * 10 + g k) % 10 = g k
  have := h k hk
  omega
theorem tv_z {g : Nat → Nat} {n : Nat} : tv g n = 0 ↔ ∀ i, i < n → g i = 0 := by
  induction n with
  | zero => exact ⟨fun _ i hi => absurd hi (by omega), fun _ => rfl⟩
  | succ n ih =>
    have e : tv g (n + 1) = tv g n * 10 + g n := rfl
    constructor
    · intro h i hi
      have h0 : tv g n = 0 := by omega
      by_cases q : i = n
      · subst q; omega
      · exact ih.mp h0 i (by omega)
    · intro h
      have := ih.mpr (fun i hi => h i (by omega))
      have := h n (by omega)
      omega
/-- without k leading zeros -/
theorem tv_drop {g : Nat → Nat} {n k : Nat} (hk : k ≤ n) (h : ∀ i, i < k → g i = 0) : tv (fun i => g (k + i)) (n - k) = tv g n := by
  rw [tv_split2 hk, tv_z.mpr h, Nat.zero_mul, Nat.zero_add]
theorem tv_dg {g : Nat → Nat} {n : Nat} (hn : 0 < n) (h : ∀ i, i < n → g i < 10) (h0 : g 0 ≠ 0) : dg (tv g n) = n := by
  have e := tv_split2 (g := g) (m := 1) (n := n) (by omega)
  have e1 : tv g 1 = g 0 := by simp [tv]
  have l := tv_lt h
  rw [show n = (n - 1) + 1 by omega] at l ⊢
  refine dg_eq ?_ l
  rw [show n - 1 + 1 = n by omega, e, e1]
  have : 1 * 10 ^ (n - 1) ≤ g 0 * 10 ^ (n - 1) := Nat.mul_le_mul_right _ (by omega)
  omega
theorem tv_inj {g g' : Nat → Nat} {n : Nat} (h : ∀ i, i < n → g i < 10) (h' : ∀ i, i < n → g' i < 10) (e : tv g n = tv g' n) : ∀ i, i < n → g i = g' i := fun i hi => by
  rw [← tv_dig hi h, ← tv_dig hi h', e]
/-- the digits of V as n digits, the highest first -/
def td (V n k : Nat) : Nat := V / 10 ^ (n - 1 - k) % 10
theorem td_lt (V n k : Nat) : td V n k < 10 := Nat.mod_lt _ (by decide)
theorem tv_td_pre {V n k : Nat} (hV : V < 10 ^ n) (hk : k ≤ n) : tv (td V n) k = V / 10 ^ (n - k) := by
  induction k with
  | zero => rw [Nat.sub_zero, Nat.div_eq_of_lt hV]; rfl
  | succ k ih =>
    show tv (td V n) k * 10 + td V n k = _
    rw [ih (by omega)]
    unfold td
    rw [show n - k = (n - 1 - k) + 1 by omega, show n - (k + 1) = n - 1 - k by omega, Nat.pow_succ, ← Nat.div_div_eq_div_mul]
    omega
theorem tv_td {V n : Nat} (hV : V < 10 ^ n) : tv (td V n) n = V := by
  rw [tv_td_pre hV (Nat.le_refl n), Nat.sub_self, Nat.pow_zero, Nat.div_one]
theorem td_dg0 {V : Nat} (h : V ≠ 0) : td V (dg V) 0 ≠ 0 := by
  intro e
  have a := dg_ge V (by omega)
  have b := dg_lt V
  have c := dg_pos V
  unfold td at e
  rw [Nat.sub_zero] at e
  have f : V / 10 ^ (dg V - 1) < 10 := by
    apply Nat.div_lt_of_lt_mul
    rw [← Nat.pow_succ]
    rwa [show (dg V - 1).succ = dg V by omega]
  rw [Nat.mod_eq_of_lt f] at e
  have g := Nat.div_pos a (Nat.pow_pos (by decide))
  omega
theorem tv_td_of {g : Nat → Nat} {n : Nat} (h : ∀ i, i < n → g i < 10) : ∀ i, i < n → g i = td (tv g n) n i := fun i hi => (tv_dig hi h).symm
theorem dgle {V n : Nat} (hn : 0 < n) (h : V < 10 ^ n) : dg V ≤ n := by
  by_cases e : V = 0
  · rw [e, dg_0]; omega
  · have a := dg_ge V (by omega)
    have : dg V - 1 < n := pow_lt_cancel (by omega)
    omega
theorem dg_le_iff {V n : Nat} (hn : 0 < n) : dg V ≤ n ↔ V < 10 ^ n :=
  ⟨fun h => Nat.lt_of_lt_of_le (dg_lt V) (Nat.pow_le_pow_right (by decide) h), dgle hn⟩
/-- one digit set -/
theorem tv_zu {g : Nat → Nat} {n k v : Nat} (h : k < n) : tv (zu g k v) n + g k * 10 ^ (n - 1 - k) = tv g n + v * 10 ^ (n - 1 - k) := by
  induction n with
  | zero => omega
  | succ n ih =>
    show tv (zu g k v) n * 10 + zu g k v n + g k * 10 ^ (n + 1 - 1 - k) = tv g n * 10 + g n + v * 10 ^ (n + 1 - 1 - k)
    by_cases e : k = n
    · subst e
      rw [zu_s, tv_congr (g' := g) (fun i hi => zu_n (by omega)), show k + 1 - 1 - k = 0 by omega, Nat.pow_zero]
      omega
    · rw [zu_n (fun q => e q.symm)]
      have := ih (by omega)
      rw [show n + 1 - 1 - k = (n - 1 - k) + 1 by omega, Nat.pow_succ, ← Nat.mul_assoc, ← Nat.mul_assoc]
      omega
theorem tv_zu_out {g : Nat → Nat} {n k v : Nat} (h : n ≤ k) : tv (zu g k v) n = tv g n := tv_congr (fun i hi => zu_n (by omega))
theorem tv_ext {g : Nat → Nat} {n v : Nat} : tv (zu g n v) (n + 1) = tv g n * 10 + v := by
  show tv (zu g n v) n * 10 + zu g n v n = _
  rw [tv_zu_out (Nat.le_refl n), zu_s]
/-- with zeros behind -/
theorem dg_mul_pow {V : Nat} (h : V ≠ 0) (k : Nat) : dg (V * 10 ^ k) = dg V + k := by
  have a := dg_ge V (by omega)
  have b := dg_lt V
  have c := dg_pos V
  have e : dg V + k = (dg V - 1 + k) + 1 := by omega
  rw [e]
  refine dg_eq ?_ ?_
  · rw [Nat.pow_add]; exact Nat.mul_le_mul_right _ a
  · rw [show dg V - 1 + k + 1 = dg V + k by omega, Nat.pow_add]
    exact (Nat.mul_lt_mul_right (Nat.pow_pos (by decide))).mpr b
/-- cut short by k digits -/
theorem dg_div_pow {V k : Nat} (h : k < dg V) : dg (V / 10 ^ k) = dg V - k := by
  have c := dg_pos V
  have b := dg_lt V
  by_cases hV : V = 0
  · subst hV
    rw [dg_0] at h ⊢
    rw [show k = 0 by omega]
    simp [dg_0]
  · have a := dg_ge V (by omega)
    have e : dg V - k = (dg V - k - 1) + 1 := by omega
    rw [e]
    refine dg_eq ?_ ?_
    · rw [Nat.le_div_iff_mul_le (Nat.pow_pos (by decide)), ← Nat.pow_add, show dg V - k - 1 + k = dg V - 1 by omega]
      exact a
    · rw [Nat.div_lt_iff_lt_mul (Nat.pow_pos (by decide)), ← Nat.pow_add, show dg V - k - 1 + 1 + k = dg V by omega]
      exact b
theorem div_pow_z {V k : Nat} (h : dg V ≤ k) : V / 10 ^ k = 0 := Nat.div_eq_of_lt (Nat.lt_of_lt_of_le (dg_lt V) (Nat.pow_le_pow_right (by decide) h))
theorem pow10_pos (k : Nat) : 0 < 10 ^ k := Nat.pow_pos (by decide)

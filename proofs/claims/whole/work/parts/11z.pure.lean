/-! pure: limbs and digits -/
theorem zv_div {b : Nat} {g : Nat → Nat} (hb : 0 < b) {m : Nat} (n : Nat) (h : ∀ i, i < m → g i < b) : zv b g (m + n) / b ^ m = zv b (fun i => g (m + i)) n := by
  rw [zv_split, Nat.add_mul_div_left _ _ (Nat.pow_pos hb), Nat.div_eq_of_lt (zv_lt h), Nat.zero_add]
theorem zv_mod {b : Nat} {g : Nat → Nat} {m : Nat} (n : Nat) (h : ∀ i, i < m → g i < b) : zv b g (m + n) % b ^ m = zv b g m := by
  rw [zv_split, Nat.add_mul_mod_self_left, Nat.mod_eq_of_lt (zv_lt h)]
/-- the limb q, and all above it -/
theorem zv_from {b : Nat} {g : Nat → Nat} (hb : 0 < b) {n q : Nat} (hq : q < n) (h : ∀ i, i < n → g i < b) : zv b g n / b ^ q = g q + b * zv b (fun i => g (q + 1 + i)) (n - q - 1) := by
  have e : n = q + (1 + (n - q - 1)) := by omega
  rw [show zv b g n = zv b g (q + (1 + (n - q - 1))) by rw [← e], zv_div hb _ (fun i hi => h i (by omega)), zv_split]
  have e1 : zv b (fun i => g (q + i)) 1 = g q := by simp [zv]
  rw [e1, Nat.pow_one]
  congr 2
  exact zv_congr (fun i _ => by rw [Nat.add_assoc])
theorem zv_dig {b : Nat} {g : Nat → Nat} (hb : 0 < b) {n q : Nat} (hq : q < n) (h : ∀ i, i < n → g i < b) : zv b g n / b ^ q % b = g q := by
  rw [zv_from hb hq h, Nat.add_mul_mod_self_left, Nat.mod_eq_of_lt (h q hq)]
theorem p9 : (10 : Nat) ^ 9 = 1000000000 := by decide
theorem p9q (q : Nat) : (1000000000 : Nat) ^ q = 10 ^ (9 * q) := by rw [← p9, ← Nat.pow_mul]
/-- a decimal digit out of the limbs -/
theorem zv_digit {g : Nat → Nat} {n q r : Nat} (hq : q < n) (hr : r < 9) (h : ∀ i, i < n → g i < 1000000000) : zv 1000000000 g n / 10 ^ (9 * q + r) % 10 = g q / 10 ^ r % 10 := by
  rw [Nat.pow_add, ← p9q, ← Nat.div_div_eq_div_mul, zv_from (by decide) hq h]
  have e : (1000000000 : Nat) = 10 ^ r * (10 * 10 ^ (8 - r)) := by
    rw [← p9, ← Nat.pow_succ', ← Nat.pow_add]
    congr 1
    omega
  rw [show g q + 1000000000 * zv 1000000000 (fun i => g (q + 1 + i)) (n - q - 1) = g q + 10 ^ r * ((10 * 10 ^ (8 - r)) * zv 1000000000 (fun i => g (q + 1 + i)) (n - q - 1)) by rw [← Nat.mul_assoc, ← e], Nat.add_mul_div_left _ _ (Nat.pow_pos (by decide)), Nat.mul_assoc, Nat.add_mul_mod_self_left]
/-- how many decimal digits -/
def dg (v : Nat) : Nat := if v < 10 then 1 else dg (v / 10) + 1
decreasing_by omega
theorem dg_pos (v : Nat) : 1 ≤ dg v := by
  unfold dg
  split <;> omega
theorem dg_lt (v : Nat) : v < 10 ^ dg v := by
  induction v using Nat.strongRecOn with
  | ind v ih =>
    unfold dg
    split
    · simpa using ‹v < 10›
    · have := ih (v / 10) (by omega)
      rw [Nat.pow_succ]
      omega
theorem dg_ge (v : Nat) (h : 0 < v) : 10 ^ (dg v - 1) ≤ v := by
  induction v using Nat.strongRecOn with
  | ind v ih =>
    unfold dg
    split
    · have e : (10 : Nat) ^ (1 - 1) = 1 := rfl
      omega
    · have h1 := ih (v / 10) (by omega) (by omega)
      have h2 := dg_pos (v / 10)
      rw [show dg (v / 10) + 1 - 1 = (dg (v / 10) - 1) + 1 by omega, Nat.pow_succ]
      omega
theorem pow_lt_cancel {a b : Nat} (h : (10 : Nat) ^ a < 10 ^ b) : a < b := (Nat.pow_lt_pow_iff_right (by decide)).mp h
theorem dg_eq {v d : Nat} (h1 : 10 ^ d ≤ v) (h2 : v < 10 ^ (d + 1)) : dg v = d + 1 := by
  have hv : 0 < v := Nat.lt_of_lt_of_le (Nat.pow_pos (by decide)) h1
  have a := dg_lt v
  have b := dg_ge v hv
  have c := dg_pos v
  have x : d < dg v := pow_lt_cancel (Nat.lt_of_le_of_lt h1 a)
  have y : dg v - 1 < d + 1 := pow_lt_cancel (Nat.lt_of_le_of_lt b h2)
  omega
theorem dg_0 : dg 0 = 1 := by unfold dg; rfl
theorem dg_mono {v w : Nat} (h : v ≤ w) : dg v ≤ dg w := by
  by_cases hv : v = 0
  · rw [hv, dg_0]; exact dg_pos w
  · have a := dg_ge v (by omega)
    have b := dg_lt w
    have x : dg v - 1 < dg w := pow_lt_cancel (by omega)
    omega
/-- the digits of limbs whose top limb is not 0 -/
theorem zv_dg {g : Nat → Nat} {n c : Nat} (h : ∀ i, i < n + 1 → g i < 1000000000) (h1 : 10 ^ c ≤ g n) (h2 : g n < 10 ^ (c + 1)) : dg (zv 1000000000 g (n + 1)) = 9 * n + (c + 1) := by
  have hlt : zv 1000000000 g n < 10 ^ (9 * n) := by
    have := zv_lt (b := 1000000000) (n := n) (g := g) (fun i hi => h i (by omega))
    rwa [p9q] at this
  have e : zv 1000000000 g (n + 1) = zv 1000000000 g n + g n * 10 ^ (9 * n) := by
    show zv 1000000000 g n + g n * 1000000000 ^ n = _
    rw [p9q]
  rw [show 9 * n + (c + 1) = (9 * n + c) + 1 by omega]
  refine dg_eq ?_ ?_
  · rw [e, Nat.pow_add, Nat.mul_comm]
    exact Nat.le_trans (Nat.mul_le_mul_right _ h1) (Nat.le_add_left _ _)
  · rw [e, show 9 * n + c + 1 = 9 * n + (c + 1) by omega, Nat.pow_add]
    have : (g n + 1) * 10 ^ (9 * n) ≤ 10 ^ (c + 1) * 10 ^ (9 * n) := Nat.mul_le_mul_right _ h2
    rw [Nat.add_mul, Nat.one_mul] at this
    rw [Nat.mul_comm (10 ^ (9 * n))]
    omega
/-- the table of the powers of ten -/
theorem zd_tens_lt {i : Nat} (h : i < 10) : 10 ^ i < 2 ^ 31 := by
  have : (10 : Nat) ^ i ≤ 10 ^ 9 := Nat.pow_le_pow_right (by decide) (by omega)
  omega

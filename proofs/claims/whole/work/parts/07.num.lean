/-! numbers: an Int32 and an Int64 by its integer -/
def iI (z : Int) : Int32 := Int32.ofInt z
def lI (z : Int) : Int64 := Int64.ofInt z
def iR (z : Int) : Prop := -2147483648 ≤ z ∧ z < 2147483648
def lR (z : Int) : Prop := -9223372036854775808 ≤ z ∧ z < 9223372036854775808
theorem iI_add (a b : Int) : iI a + iI b = iI (a + b) := (Int32.ofInt_add a b).symm
theorem iI_sub (a b : Int) : iI a - iI b = iI (a - b) := (Int32.ofInt_sub a b).symm
theorem iI_mul (a b : Int) : iI a * iI b = iI (a * b) := (Int32.ofInt_mul a b).symm
theorem iI_neg (a : Int) : -iI a = iI (-a) := Int32.neg_ofInt
theorem lI_add (a b : Int) : lI a + lI b = lI (a + b) := (Int64.ofInt_add a b).symm
theorem lI_sub (a b : Int) : lI a - lI b = lI (a - b) := (Int64.ofInt_sub a b).symm
theorem lI_mul (a b : Int) : lI a * lI b = lI (a * b) := (Int64.ofInt_mul a b).symm
theorem lI_neg (a : Int) : -lI a = lI (-a) := Int64.neg_ofInt
theorem iI_t {a : Int} (h : iR a) : (iI a).toInt = a := Int32.toInt_ofInt_of_le (by have := h.1; omega) (by have := h.2; omega)
theorem lI_t {a : Int} (h : lR a) : (lI a).toInt = a := Int64.toInt_ofInt_of_le (by have := h.1; omega) (by have := h.2; omega)
theorem iI_of (x : Int32) : ∃ z, iR z ∧ x = iI z := ⟨x.toInt, ⟨by have := x.le_toInt; omega, by have := x.toInt_lt; omega⟩, (Int32.ofInt_toInt x).symm⟩
theorem lI_of (x : Int64) : ∃ z, lR z ∧ x = lI z := ⟨x.toInt, ⟨by have := x.le_toInt; omega, by have := x.toInt_lt; omega⟩, (Int64.ofInt_toInt x).symm⟩
theorem iI_lt {a b : Int} (ha : iR a) (hb : iR b) : iI a < iI b ↔ a < b := by rw [Int32.lt_iff_toInt_lt, iI_t ha, iI_t hb]
theorem iI_le {a b : Int} (ha : iR a) (hb : iR b) : iI a ≤ iI b ↔ a ≤ b := by rw [Int32.le_iff_toInt_le, iI_t ha, iI_t hb]
theorem iI_eq {a b : Int} (ha : iR a) (hb : iR b) : iI a = iI b ↔ a = b := by rw [← Int32.toInt_inj, iI_t ha, iI_t hb]
theorem lI_lt {a b : Int} (ha : lR a) (hb : lR b) : lI a < lI b ↔ a < b := by rw [Int64.lt_iff_toInt_lt, lI_t ha, lI_t hb]
theorem lI_le {a b : Int} (ha : lR a) (hb : lR b) : lI a ≤ lI b ↔ a ≤ b := by rw [Int64.le_iff_toInt_le, lI_t ha, lI_t hb]
theorem lI_eq {a b : Int} (ha : lR a) (hb : lR b) : lI a = lI b ↔ a = b := by rw [← Int64.toInt_inj, lI_t ha, lI_t hb]
theorem iI_l {a : Int} (h : iR a) : (iI a).toInt64 = lI a := by
  apply Int64.toInt.inj
  rw [Int32.toInt_toInt64, iI_t h, lI_t ⟨by have := h.1; omega, by have := h.2; omega⟩]
theorem lI_i (a : Int) : (lI a).toInt32 = iI a := Int64.toInt32_ofInt
theorem iI_div {a b : Int} (ha : iR a) (h0 : 0 ≤ a) (hb : iR b) (h1 : 0 < b) : iI a / iI b = iI (a / b) := by
  have hne : iI b ≠ -1 := fun q => by
    have e := iI_t hb
    rw [q] at e
    have : (-1 : Int32).toInt = -1 := by decide
    omega
  have hd : 0 ≤ a / b := Int.ediv_nonneg h0 (by omega)
  have hle : a / b ≤ a := Int.ediv_le_self _ h0
  apply Int32.toInt.inj
  rw [Int32.toInt_div_of_ne_right _ _ hne, iI_t ha, iI_t hb, iI_t ⟨by omega, by have := ha.2; omega⟩, Int.tdiv_eq_ediv_of_nonneg h0]
theorem lI_div {a b : Int} (ha : lR a) (h0 : 0 ≤ a) (hb : lR b) (h1 : 0 < b) : lI a / lI b = lI (a / b) := by
  have hne : lI b ≠ -1 := fun q => by
    have e := lI_t hb
    rw [q] at e
    have : (-1 : Int64).toInt = -1 := by decide
    omega
  have hd : 0 ≤ a / b := Int.ediv_nonneg h0 (by omega)
  have hle : a / b ≤ a := Int.ediv_le_self _ h0
  apply Int64.toInt.inj
  rw [Int64.toInt_div_of_ne_right _ _ hne, lI_t ha, lI_t hb, lI_t ⟨by omega, by have := ha.2; omega⟩, Int.tdiv_eq_ediv_of_nonneg h0]
theorem iI_rem {a b : Int} (ha : iR a) (h0 : 0 ≤ a) (hb : iR b) (h1 : 0 < b) : iI a - iI a / iI b * iI b = iI (a % b) := by
  rw [iI_div ha h0 hb h1, iI_mul, iI_sub]
  congr 1
  have := Int.emod_add_mul_ediv a b
  rw [Int.mul_comm] at this
  omega
theorem lI_rem {a b : Int} (ha : lR a) (h0 : 0 ≤ a) (hb : lR b) (h1 : 0 < b) : lI a - lI a / lI b * lI b = lI (a % b) := by
  rw [lI_div ha h0 hb h1, lI_mul, lI_sub]
  congr 1
  have := Int.emod_add_mul_ediv a b
  rw [Int.mul_comm] at this
  omega
theorem iI_nI (n : Nat) : nI n = iI (n : Int) := (Int32.ofInt_eq_ofNat (n := n)).symm
theorem iI_cl {n : Int} (h0 : 0 ≤ n) (h : n < 2147483648) : (iI n).toNatClampNeg = n.toNat := by
  show (iI n).toInt.toNat = n.toNat
  rw [iI_t ⟨by omega, h⟩]
theorem iI_in {i : Int} {n : Nat} (h0 : 0 ≤ i) (h1 : i < n) (h2 : i < 2147483648) : vp_in (iI i) n := by
  rw [vp_in_iff, iI_t ⟨by omega, h2⟩]
  exact ⟨h0, h1⟩
/-! rows of figures: what number they are, the lowest first -/
def zv (b : Nat) (g : Nat → Nat) : Nat → Nat
  | 0 => 0
  | n + 1 => zv b g n + g n * b ^ n
theorem zv_lt {b : Nat} {g : Nat → Nat} {n : Nat} (h : ∀ i, i < n → g i < b) : zv b g n < b ^ n := by
  induction n with
  | zero => simp [zv]
  | succ n ih =>
    have h1 := ih (fun i hi => h i (by omega))
    have h2 : g n + 1 ≤ b := h n (by omega)
    have h3 : (g n + 1) * b ^ n ≤ b * b ^ n := Nat.mul_le_mul_right _ h2
    show zv b g n + g n * b ^ n < b ^ (n + 1)
    rw [Nat.pow_succ, Nat.mul_comm (b ^ n) b]
    rw [Nat.add_mul, Nat.one_mul] at h3
    omega
theorem zv_congr {b : Nat} {g g' : Nat → Nat} {n : Nat} (h : ∀ i, i < n → g i = g' i) : zv b g n = zv b g' n := by
  induction n with
  | zero => rfl
  | succ n ih =>
    show zv b g n + g n * b ^ n = zv b g' n + g' n * b ^ n
    rw [ih (fun i hi => h i (by omega)), h n (by omega)]
theorem zv_split (b : Nat) (g : Nat → Nat) (m n : Nat) : zv b g (m + n) = zv b g m + b ^ m * zv b (fun i => g (m + i)) n := by
  induction n with
  | zero => simp [zv]
  | succ n ih =>
    show zv b g (m + n) + g (m + n) * b ^ (m + n) = zv b g m + b ^ m * (zv b (fun i => g (m + i)) n + g (m + n) * b ^ n)
    rw [ih, Nat.mul_add, Nat.pow_add, Nat.mul_left_comm]
    omega
theorem zv_zero {b : Nat} {g : Nat → Nat} {n : Nat} (h : ∀ i, i < n → g i = 0) : zv b g n = 0 := by
  induction n with
  | zero => rfl
  | succ n ih =>
    show zv b g n + g n * b ^ n = 0
    rw [ih (fun i hi => h i (by omega)), h n (by omega)]
    simp
/-- one figure changed -/
def zu (g : Nat → Nat) (k v : Nat) : Nat → Nat := fun j => if j = k then v else g j
theorem zu_s {g : Nat → Nat} {k v : Nat} : zu g k v k = v := if_pos rfl
theorem zu_n {g : Nat → Nat} {k v j : Nat} (h : j ≠ k) : zu g k v j = g j := if_neg h
theorem zv_zu {b : Nat} {g : Nat → Nat} {n k v : Nat} (h : k < n) : zv b (zu g k v) n + g k * b ^ k = zv b g n + v * b ^ k := by
  induction n with
  | zero => omega
  | succ n ih =>
    show zv b (zu g k v) n + zu g k v n * b ^ n + g k * b ^ k = zv b g n + g n * b ^ n + v * b ^ k
    by_cases e : k = n
    · subst e
      rw [zu_s, zv_congr (g' := g) (fun i hi => zu_n (by omega))]
      omega
    · rw [zu_n (fun q => e q.symm)]
      have := ih (by omega)
      omega
theorem zv_zu_out {b : Nat} {g : Nat → Nat} {n k v : Nat} (h : n ≤ k) : zv b (zu g k v) n = zv b g n := zv_congr (fun i hi => zu_n (by omega))
theorem upd_nI (g : Nat → Nat) (k v : Nat) : upd (fun i => nI (g i)) k (nI v) = fun i => nI (zu g k v i) := by
  funext j
  unfold upd zu
  split <;> rfl

/-! pure: trailing zeros, numbers cut to a scale, rounded, brought to a precision -/
def tz (v : Nat) : Nat := if v = 0 then 0 else if v % 10 = 0 then tz (v / 10) + 1 else 0
decreasing_by omega
theorem tz_spec (v : Nat) (h : v ≠ 0) : v % 10 ^ tz v = 0 ∧ v % 10 ^ (tz v + 1) ≠ 0 := by
  induction v using Nat.strongRecOn with
  | ind v ih =>
    unfold tz
    rw [if_neg h]
    by_cases e : v % 10 = 0
    · rw [if_pos e]
      obtain ⟨a, b⟩ := ih (v / 10) (by omega) (by omega)
      have key : ∀ k, v % 10 ^ (k + 1) = v / 10 % 10 ^ k * 10 := fun k => by
        rw [Nat.pow_succ, Nat.mul_comm (10 ^ k) 10, Nat.mod_mul, e]
        omega
      rw [key, key]
      omega
    · rw [if_neg e]
      simp only [Nat.pow_zero, Nat.zero_add, Nat.pow_one]
      exact ⟨Nat.mod_one v, e⟩
theorem mod_pow_mono {v a b : Nat} (h : a ≤ b) (hb : v % 10 ^ b = 0) : v % 10 ^ a = 0 := by
  have d := Nat.dvd_of_mod_eq_zero hb
  exact Nat.mod_eq_zero_of_dvd (Nat.dvd_trans (Nat.pow_dvd_pow 10 h) d)
theorem tz_eq {v t : Nat} (h1 : v % 10 ^ t = 0) (h2 : v % 10 ^ (t + 1) ≠ 0) : tz v = t := by
  have hv : v ≠ 0 := fun e => h2 (by rw [e, Nat.zero_mod])
  obtain ⟨a, b⟩ := tz_spec v hv
  rcases Nat.lt_trichotomy (tz v) t with c | c | c
  · exact absurd (mod_pow_mono (by omega) h1) b
  · exact c
  · exact absurd (mod_pow_mono (by omega) a) h2
theorem tz_le {v k : Nat} (hv : v ≠ 0) : k ≤ tz v ↔ v % 10 ^ k = 0 := by
  obtain ⟨a, b⟩ := tz_spec v hv
  constructor
  · exact fun h => mod_pow_mono h a
  · intro h
    rcases Nat.lt_or_ge (tz v) k with c | c
    · exact absurd (mod_pow_mono (by omega) h) b
    · exact c
theorem tz_lt_dg {v : Nat} (hv : v ≠ 0) : tz v < dg v := by
  obtain ⟨a, _⟩ := tz_spec v hv
  rcases Nat.lt_or_ge (tz v) (dg v) with c | c
  · exact c
  · rw [Nat.mod_eq_of_lt (Nat.lt_of_lt_of_le (dg_lt v) (Nat.pow_le_pow_right (by decide) c))] at a
    exact absurd a hv
/-- a quotient at scale t, the dividend being at scale s: its integer part, and whether it goes on -/
def qV (N M : Nat) (s t : Int) : Nat := N * 10 ^ (t - s).toNat / (M * 10 ^ (s - t).toNat)
def qL (N M : Nat) (s t : Int) : Bool := decide (N * 10 ^ (t - s).toNat % (M * 10 ^ (s - t).toNat) ≠ 0)
/-- a way of digits that never ends -/
def Str (c : Int → Nat) (z : Int → Bool) : Prop := ∀ (t : Int) (k : Nat), c t = c (t + k) / 10 ^ k ∧ z t = (z (t + k) || decide (c (t + k) % 10 ^ k ≠ 0))
theorem scale_step {s t : Int} {k : Nat} : ∃ j : Nat, (t + k - s).toNat = (t - s).toNat + (k - j) ∧ (s - t).toNat = (s - (t + k)).toNat + j ∧ j ≤ k := by
  by_cases h : t + k ≤ s
  · exact ⟨k, by omega, by omega, by omega⟩
  · by_cases h2 : t ≤ s
    · exact ⟨(s - t).toNat, by omega, by omega, by omega⟩
    · exact ⟨0, by omega, by omega, by omega⟩
theorem div_str {X Y A B : Nat} (hA : 0 < A) (hB : 0 < B) : X / (Y * B) = X * A / Y / (A * B) ∧ decide (X % (Y * B) ≠ 0) = (decide (X * A % Y ≠ 0) || decide (X * A / Y % (A * B) ≠ 0)) := by
  constructor
  · rw [Nat.div_div_eq_div_mul, ← Nat.mul_assoc, Nat.mul_comm Y A, Nat.mul_assoc, Nat.mul_comm X A, Nat.mul_div_mul_left _ _ hA]
  · rw [Bool.eq_iff_iff]
    simp only [Bool.or_eq_true, decide_eq_true_eq]
    rw [← Decidable.not_iff_not]
    simp only [not_or, Decidable.not_not]
    have e : Y * B * A = Y * (A * B) := by rw [Nat.mul_assoc, Nat.mul_comm B A]
    constructor
    · intro h
      have d : Y * (A * B) ∣ X * A := by rw [← e]; exact Nat.mul_dvd_mul_right (Nat.dvd_of_mod_eq_zero h) A
      have d1 : Y ∣ X * A := Nat.dvd_trans ⟨A * B, rfl⟩ d
      refine ⟨Nat.mod_eq_zero_of_dvd d1, Nat.mod_eq_zero_of_dvd ?_⟩
      obtain ⟨w, hw⟩ := d
      rcases Nat.eq_zero_or_pos Y with y | y
      · rw [y, Nat.div_zero]; exact Nat.dvd_zero _
      · rw [hw, Nat.mul_assoc, Nat.mul_div_cancel_left _ y]; exact ⟨w, rfl⟩
    · intro ⟨h1, h2⟩
      obtain ⟨w, hw⟩ := Nat.dvd_of_mod_eq_zero h2
      have := Nat.div_add_mod (X * A) Y
      rw [h1, Nat.add_zero, hw] at this
      apply Nat.mod_eq_zero_of_dvd
      refine ⟨w, ?_⟩
      apply Nat.eq_of_mul_eq_mul_right hA
      rw [← this, show Y * B * w * A = Y * (A * B * w) by
        simp only [Nat.mul_assoc, Nat.mul_comm, Nat.mul_left_comm]]
theorem qStr (N M : Nat) (s : Int) : Str (qV N M s) (qL N M s) := by
  intro t k
  obtain ⟨j, h1, h2, h3⟩ := scale_step (s := s) (t := t) (k := k)
  unfold qV qL
  rw [h1, h2, Nat.pow_add, Nat.pow_add, ← Nat.mul_assoc, ← Nat.mul_assoc]
  have := div_str (X := N * 10 ^ (t - s).toNat) (Y := M * 10 ^ (s - (t + k)).toNat) (pow10_pos (k - j)) (pow10_pos j)
  rw [← Nat.pow_add, show k - j + j = k by omega] at this
  exact this
theorem cut_q (V : Nat) (s w : Int) : cutV V s w = qV V 1 s w ∧ cutL V s w = qL V 1 s w := by
  unfold cutV cutL qV qL
  rw [Nat.one_mul]
  refine ⟨rfl, ?_⟩
  by_cases h : s ≤ w
  · rw [show (s - w).toNat = 0 by omega]; simp [Nat.mod_one]
  · rw [show (w - s).toNat = 0 by omega, Nat.pow_zero, Nat.mul_one]
theorem cutStr (V : Nat) (s : Int) : Str (cutV V s) (cutL V s) := by
  have e1 : cutV V s = qV V 1 s := funext fun w => (cut_q V s w).1
  have e2 : cutL V s = qL V 1 s := funext fun w => (cut_q V s w).2
  rw [e1, e2]
  exact qStr V 1 s
/-- the dividend cut first -/
theorem cut_div (N M : Nat) (s w : Int) : cutV N s w / M = qV N M s w ∧ (cutL N s w || decide (cutV N s w % M ≠ 0)) = qL N M s w := by
  unfold cutV cutL qV qL
  by_cases h : s ≤ w
  · rw [show (s - w).toNat = 0 by omega]
    simp [Nat.mod_one]
  · rw [show (w - s).toNat = 0 by omega, Nat.pow_zero, Nat.mul_one, Nat.div_div_eq_div_mul, Nat.mul_comm M]
    refine ⟨rfl, ?_⟩
    rw [Nat.mod_mul, Bool.eq_iff_iff]
    simp only [Bool.or_eq_true, decide_eq_true_eq]
    have p := pow10_pos (s - w).toNat
    rw [← Decidable.not_iff_not]
    simp only [not_or, Decidable.not_not]
    constructor
    · intro ⟨a, b⟩; rw [a, b]; simp
    · intro a
      have : 10 ^ (s - w).toNat * (N / 10 ^ (s - w).toNat % M) = 0 := by omega
      rcases Nat.mul_eq_zero.mp this with q | q <;> omega
theorem cutV_up {V : Nat} {s w : Int} (h : s ≤ w) : cutV V s w = V * 10 ^ (w - s).toNat ∧ cutL V s w = false := by
  unfold cutV cutL
  rw [show (s - w).toNat = 0 by omega]
  simp [Nat.mod_one]
theorem cutV_dn {V : Nat} {s w : Int} (h : w ≤ s) : cutV V s w = V / 10 ^ (s - w).toNat ∧ cutL V s w = decide (V % 10 ^ (s - w).toNat ≠ 0) := by
  unfold cutV cutL
  rw [show (w - s).toNat = 0 by omega]
  simp
theorem cutV_same (V : Nat) (s : Int) : cutV V s s = V ∧ cutL V s s = false := by
  have := cutV_up (V := V) (s := s) (w := s) (Int.le_refl s)
  rw [Int.sub_self] at this
  simpa using this
/-- the way of digits, as it was cut at s, cut again or lengthened -/
theorem Str.cut {c : Int → Nat} {z : Int → Bool} (h : Str c z) {s w : Int} (hw : w ≤ s ∨ z s = false) : cutV (c s) s w = c w ∧ (z s || cutL (c s) s w) = z w := by
  by_cases e : w ≤ s
  · obtain ⟨a, b⟩ := h w (s - w).toNat
    rw [show w + ((s - w).toNat : Int) = s by omega] at a b
    obtain ⟨p, q⟩ := cutV_dn (V := c s) e
    exact ⟨by rw [p, a], by rw [q, b]⟩
  · have hz : z s = false := hw.resolve_left e
    obtain ⟨a, b⟩ := h s (w - s).toNat
    rw [show s + ((w - s).toNat : Int) = w by omega] at a b
    obtain ⟨p, q⟩ := cutV_up (V := c s) (s := s) (w := w) (by omega)
    rw [hz] at b ⊢
    obtain ⟨b1, b2⟩ := Bool.or_eq_false_iff.mp b.symm
    have b3 := Decidable.not_not.mp (of_decide_eq_false b2)
    have := Nat.div_add_mod (c w) (10 ^ (w - s).toNat)
    rw [b3, Nat.add_zero, ← a, Nat.mul_comm] at this
    exact ⟨by rw [p, this], by rw [q, b1]; rfl⟩
/-- what is left to do with prec + 1 digits -/
def fitW (prec : Nat) (wish : Int) (md : Nat) (neg : Bool) (V : Nat) (w : Int) (lost : Bool) : Option (Nat × Int) :=
  if V % 10 = 0 ∧ lost = false then some (V / 10 / 10 ^ (min (w - 1 - wish).toNat (tz (V / 10))), w - 1 - (min (w - 1 - wish).toNat (tz (V / 10)) : Nat))
  else match rnd md neg (V / 10) (V % 10) lost with
  | none => none
  | some q => if dg q ≤ prec then some (q, w - 1) else some (q / 10, w - 2)
def fit (prec : Nat) (wish : Int) (md : Nat) (neg : Bool) (V : Nat) (s : Int) (lost : Bool) : Option (Nat × Int) :=
  if V = 0 ∧ lost = false then some (0, wish) else fitW prec wish md neg (cutV V s (s + prec + 1 - dg V)) (s + prec + 1 - dg V) (lost || cutL V s (s + prec + 1 - dg V))
theorem dg_cut {V : Nat} (h : V ≠ 0) {s : Int} {n : Nat} (hn : 1 ≤ n) : dg (cutV V s (s + n - dg V)) = n := by
  have := dg_pos V
  by_cases e : n ≤ dg V
  · rw [(cutV_dn (by omega)).1, dg_div_pow (by omega)]; omega
  · rw [(cutV_up (by omega)).1, dg_mul_pow h]; omega
theorem Str.zero {c : Int → Nat} {z : Int → Bool} (h : Str c z) {s t : Int} (h0 : c s = 0) (h1 : z s = false) : c t = 0 ∧ z t = false := by
  obtain ⟨a, b⟩ := h.cut (s := s) (w := t) (Or.inr h1)
  rw [h0, h1] at b
  rw [h0] at a
  have e1 : cutV 0 s t = 0 := by unfold cutV; simp
  have e2 : cutL 0 s t = false := by unfold cutL; simp
  rw [e1] at a
  rw [e2] at b
  exact ⟨a.symm, b.symm⟩
/-- wherever the way of digits was cut, if far enough -/
theorem fit_str {c : Int → Nat} {z : Int → Bool} (h : Str c z) {prec : Nat} {wish : Int} {md : Nat} {neg : Bool} {s t : Int} (hp : 1 ≤ prec) (hs : c s ≠ 0 ∨ z s = false) (hs2 : z s = false ∨ prec + 1 ≤ dg (c s)) (ht : c t ≠ 0 ∨ z t = false) (ht2 : z t = false ∨ prec + 1 ≤ dg (c t)) :
    fit prec wish md neg (c s) s (z s) = fit prec wish md neg (c t) t (z t) := by
  unfold fit
  by_cases e : c s = 0 ∧ z s = false
  · obtain ⟨a, b⟩ := h.zero (t := t) e.1 e.2
    rw [if_pos e, if_pos ⟨a, b⟩]
  · have e2 : ¬ (c t = 0 ∧ z t = false) := fun q => e (h.zero (t := s) q.1 q.2)
    rw [if_neg e, if_neg e2]
    have key : ∀ u, (c u ≠ 0 ∨ z u = false) → (z u = false ∨ prec + 1 ≤ dg (c u)) → ¬ (c u = 0 ∧ z u = false) → ∃ w, w = u + prec + 1 - dg (c u) ∧ cutV (c u) u w = c w ∧ (z u || cutL (c u) u w) = z w ∧ dg (c w) = prec + 1 := by
      intro u k1 k2 k3
      have hne : c u ≠ 0 := fun q => by
        rcases k1 with k1 | k1
        · exact k1 q
        · exact k3 ⟨q, k1⟩
      obtain ⟨a, b⟩ := h.cut (s := u) (w := u + prec + 1 - dg (c u)) (by rcases k2 with k2 | k2; exact Or.inr k2; exact Or.inl (by omega))
      refine ⟨_, rfl, a, b, ?_⟩
      rw [← a, show u + (prec : Int) + 1 - dg (c u) = u + ((prec + 1 : Nat) : Int) - dg (c u) by omega]
      exact dg_cut hne (by omega)
    obtain ⟨w, w0, w1, w2, w3⟩ := key s hs hs2 e
    obtain ⟨v, v0, v1, v2, v3⟩ := key t ht ht2 e2
    have un : ∀ a b : Int, a < b → dg (c a) = prec + 1 → dg (c b) = prec + 1 → False := by
      intro a b hab ha hb
      obtain ⟨p, _⟩ := h a (b - a).toNat
      rw [show a + ((b - a).toNat : Int) = b by omega] at p
      by_cases q : (b - a).toNat < dg (c b)
      · have := dg_div_pow q
        rw [← p] at this
        omega
      · rw [div_pow_z (by omega)] at p
        rw [p, dg_0] at ha
        omega
    have hvw : w = v := by
      rcases Int.lt_trichotomy w v with q | q | q
      · exact (un _ _ q w3 v3).elim
      · exact q
      · exact (un _ _ q v3 w3).elim
    rw [← w0, ← v0, w1, w2, v1, v2, hvw]

/-! Rooter: pure -/
def IsS (s X : Nat) : Prop := s * s ≤ X ∧ X < (s + 1) * (s + 1)
theorem IsS.ex (X : Nat) : ∃ s, IsS s X := by
  obtain ⟨k, h1, h2⟩ := pk_least (fun t => X < (t + 1) * (t + 1)) ⟨X, by rw [Nat.add_mul, Nat.mul_add]; omega⟩
  refine ⟨k, ?_, h1⟩
  rcases Nat.eq_zero_or_pos k with e | e
  · rw [e]; omega
  · have := h2 (k - 1) (by omega)
    rw [show k - 1 + 1 = k by omega] at this
    omega
theorem sq_lt {a b : Nat} (h : a * a < b * b) : a < b := by
  rcases Nat.lt_or_ge a b with c | c
  · exact c
  · have := Nat.mul_le_mul c c
    omega
theorem IsS.un {s t X : Nat} (a : IsS s X) (b : IsS t X) : s = t := by
  have h1 := sq_lt (Nat.lt_of_le_of_lt a.1 b.2)
  have h2 := sq_lt (Nat.lt_of_le_of_lt b.1 a.2)
  omega
theorem nw_stop {s X f : Nat} (h : IsS s X) (hs : s ≤ f) (hf : 0 < f) : f ≤ X / f ↔ f = s := by
  rw [Nat.le_div_iff_mul_le hf]
  constructor
  · intro q
    have := sq_lt (Nat.lt_of_le_of_lt q h.2)
    omega
  · intro q
    rw [q]
    exact h.1
theorem nw_step {s X f : Nat} (h : IsS s X) (hs : s < f) : s ≤ (f + X / f) / 2 ∧ (f + X / f) / 2 - s ≤ (f - s) / 2 ∧ (f + X / f) / 2 < f ∧ ((f - s) * (f - s) ≤ s → (f + X / f) / 2 - s ≤ 1) := by
  have hf : 0 < f := by omega
  have hq1 : X / f ≤ s := by
    have : X / f < s + 1 := (Nat.div_lt_iff_lt_mul hf).mpr (Nat.lt_of_lt_of_le h.2 (Nat.mul_le_mul_left _ hs))
    omega
  have hq2 : X < (X / f + 1) * f := by
    have e1 := Nat.div_add_mod X f
    have e2 := Nat.mod_lt X hf
    rw [Nat.add_mul, Nat.one_mul, Nat.mul_comm]
    omega
  have hq3 : X / f * f ≤ X := Nat.div_mul_le_self _ _
  have hx := h.1
  have hy : X ≤ s * s + 2 * s := by
    have := h.2
    rw [Nat.add_mul, Nat.mul_add] at this
    omega
  generalize X / f = q at *
  have l1 : s ≤ (f + q) / 2 := by
    rcases Nat.lt_or_ge (f + q) (2 * s) with c | c
    · exfalso
      obtain ⟨b, rfl⟩ : ∃ b, f = q + 1 + b := ⟨f - (q + 1), by omega⟩
      have hm := Nat.mul_le_mul (show 2 * (q + 1) + b ≤ 2 * s by omega) (show 2 * (q + 1) + b ≤ 2 * s by omega)
      generalize q + 1 = p at *
      have e1 : (2 * p + b) * (2 * p + b) = 4 * (p * p) + 4 * (p * b) + b * b := by
        rw [show 2 * p = p + p by omega]
        simp only [Nat.add_mul, Nat.mul_add, Nat.mul_comm b p]
        omega
      have e2 : 2 * s * (2 * s) = 4 * (s * s) := by
        rw [show 2 * s = s + s by omega]
        simp only [Nat.add_mul, Nat.mul_add]
        omega
      rw [Nat.mul_add] at hq2
      omega
    · omega
  refine ⟨l1, by omega, by omega, fun he => ?_⟩
  rcases Nat.lt_or_ge 1 ((f + q) / 2 - s) with c | c
  · exfalso
    obtain ⟨e, rfl⟩ : ∃ e, f = s + e := ⟨f - s, by omega⟩
    rw [show s + e - s = e by omega] at he
    have h1 : 2 * s + 4 ≤ s + e + q := by omega
    have h2 : (2 * s + 4) * (s + e) ≤ (s + e + q) * (s + e) := Nat.mul_le_mul_right _ h1
    rw [Nat.add_mul (s + e) q] at h2
    have e1 : (2 * s + 4) * (s + e) = 2 * (s * s) + 2 * (s * e) + 4 * s + 4 * e := by
      simp only [Nat.add_mul, Nat.mul_add, Nat.mul_assoc]
      omega
    have e2 : (s + e) * (s + e) = s * s + 2 * (s * e) + e * e := by
      simp only [Nat.add_mul, Nat.mul_add]
      rw [Nat.mul_comm e s]
      omega
    omega
  · exact c
/-- the cells of a list -/
def CL (B : zd_B) (ks : List Nat) : Nat → Prop := fun a => ∃ k, ks.contains k = true ∧ a = zd_b0 B + k
theorem CL.no {B : zd_B} {ks : List Nat} {j : Nat} (h : ks.contains j = false) : ¬ CL B ks (zd_b0 B + j) := fun ⟨k, h1, h2⟩ => by
  have e : k = j := by omega
  rw [e, h] at h1
  cases h1
theorem CL.no2 {B : zd_B} {ks : List Nat} {j : Nat} (h : (ks.contains j || ks.contains (j + 1)) = false) : ¬ CL B ks (zd_b0 B + j) ∧ ¬ CL B ks (zd_b0 B + j + 1) := by
  obtain ⟨h1, h2⟩ := Bool.or_eq_false_iff.mp h
  exact ⟨CL.no h1, by rw [Nat.add_assoc]; exact CL.no h2⟩
theorem NS.cl {B : zd_B} {ks : List Nat} {k : Nat} (h : (ks.contains k && ks.contains (k + 1)) = true) : ∀ q, NS B k q → CL B ks q := fun q z => by
  obtain ⟨h1, h2⟩ := Bool.and_eq_true_iff.mp h
  rcases z with z | z
  · exact ⟨k, h1, z⟩
  · exact ⟨k + 1, h2, z⟩
theorem CL.mono {B : zd_B} {ks ks' : List Nat} (h : ks.all (fun k => ks'.contains k) = true) : ∀ q, CL B ks q → CL B ks' q := fun q ⟨k, h1, h2⟩ => ⟨k, List.all_eq_true.mp h k (List.contains_iff_mem.mp h1), h2⟩
theorem DS.cl {B : zd_B} {ks : List Nat} {r s d : Nat} (h : ((ks.contains r && ks.contains (r + 1)) && ((ks.contains s && ks.contains (s + 1)) && (ks.contains (d + 1) && ks.contains (d + 1 + 1)))) = true) : ∀ q, DS B r s d q → CL B ks q := fun q z => by
  obtain ⟨h1, h2⟩ := Bool.and_eq_true_iff.mp h
  obtain ⟨h3, h4⟩ := Bool.and_eq_true_iff.mp h2
  rcases z with z | z | z
  · exact NS.cl h1 q z
  · exact NS.cl h3 q z
  · exact NS.cl h4 q z
theorem Nv.kc {B : zd_B} {h h' : zd_H} {d k R V : Nat} {ks : List Nat} (hN : Nv B h k R V) (f : Fg B h h' (CL B ks) d) (hk : (ks.contains k || ks.contains (k + 1)) = false) : Nv B h' k R V := hN.kept f (CL.no2 hk).1 (CL.no2 hk).2
theorem Ns.kc {B : zd_B} {h h' : zd_H} {d k R : Nat} {ks : List Nat} (hN : Ns B h k R) (f : Fg B h h' (CL B ks) d) (hk : (ks.contains k || ks.contains (k + 1)) = false) : Ns B h' k R := hN.kept f (CL.no2 hk).1 (CL.no2 hk).2
theorem Fg.obc {B : zd_B} {h h' : zd_H} {d k ci : Nat} {ks : List Nat} {fs : List Value} (f : Fg B h h' (CL B ks) d) (ho : zd_Ob B h (zd_b0 B + k) ci fs) (hk : ks.contains k = false) : zd_Ob B h' (zd_b0 B + k) ci fs := f.ob ho (CL.no hk)

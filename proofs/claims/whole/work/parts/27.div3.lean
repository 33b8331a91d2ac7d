/-! Divider: the guess -/
theorem Kn.lt {D W X Y b : Nat} (k : Kn D W X Y) (h : W < b * D) : Y < b * (X + 1) := by
  obtain ⟨s, P, D2, W2, hs, e1, l1, e2, l2⟩ := k
  rcases Nat.lt_or_ge Y (b * (X + 1)) with c | c
  · exact c
  · exfalso
    have h1 : s * W < s * (b * D) := Nat.mul_lt_mul_of_pos_left h hs
    have h2 : b * (X + 1) * P ≤ Y * P := Nat.mul_le_mul_right _ c
    rw [Nat.mul_left_comm, e1, e2] at h1
    have h3 : b * (X * P + D2) ≤ b * ((X + 1) * P) := Nat.mul_le_mul_left _ (by rw [Nat.add_mul, Nat.one_mul]; omega)
    rw [← Nat.mul_assoc] at h3
    omega
theorem lN_0 : lN 0 = 0 := rfl
section DC
variable {l : Launch} {B : zd_B} {h : zd_H} {Q : zd_O → zd_H → Prop}
theorem c_Dv_guessLimb (hG : zd_G B) (hl : l.stackTraces = false) {d r R n m at0 : Nat} {u v : Nat → Nat} (hD : Dvd B h d) (hV : Nt B h (d + 1) 226 v m) (hU : Nt B h r R u n) (hm : 0 < m) (hat : at0 + m < R) (hd1 : 500000000 ≤ v (m - 1)) (hWD : zv 1000000000 (fun i => u (at0 + i)) (m + 1) < 1000000000 * zv 1000000000 v m)
    (hq : ∀ x, x < 1000000000 → zv 1000000000 (fun i => u (at0 + i)) (m + 1) / zv 1000000000 v m ≤ x → x ≤ zv 1000000000 (fun i => u (at0 + i)) (m + 1) / zv 1000000000 v m + 1 → Q (.inl (some (.long (lN x)))) h) :
    zd_M l B m_Dv_guessLimb [.ref (zd_b0 B + d), .ref (zd_b0 B + r + 1), .int (nI (at0 + m))] h Q := by
  have r1 := hV.2.2.1
  have r2 := hU.2.2.2.1
  have u0 := hU.2.2.2.2 (at0 + m)
  have u1 := hU.2.2.2.2 (at0 + m - 1)
  have v1 := hV.2.2.2.2 (m - 1)
  have hD0 : 0 < zv 1000000000 v m := by omega
  have b79 : ∀ sec th, sec < 1000000000 → th < 1000000000 → Kn (zv 1000000000 v m) (zv 1000000000 (fun i => u (at0 + i)) (m + 1)) (v (m - 1) * 1000000000 + sec) ((u (at0 + m) * 1000000000 + u (at0 + m - 1)) * 1000000000 + th) →
      zd_W l B m_Dv_guessLimb 79 [some (.ref (zd_b0 B + d)), some (.ref (zd_b0 B + r + 1)), some (.int (nI (at0 + m))), some (.int (nI m)), some (.long (lN (v (m - 1)))), none, some (.long (lN sec)), none, some (.long (lN th)), none, none, none, none, none, none, none, none] [] h Q := by
    intro sec th hs ht hk
    have hY := hk.lt hWD
    obtain ⟨head, hh⟩ : ∃ head, head = u (at0 + m) * 1000000000 + u (at0 + m - 1) := ⟨_, rfl⟩
    rw [← hh] at hk hY
    have hhb : head < 1000000000000000000 := by omega
    have e1 : (nI (u (at0 + m))).toInt64 * 1000000000 + (nI (u (at0 + m - 1))).toInt64 = lN head := by rw [nI_l (by omega), nI_l (by omega), show (1000000000 : Int64) = lN 1000000000 from rfl, lN_mul, lN_add, hh]
    have hdm := Nat.div_add_mod head (v (m - 1))
    have hdl : head / v (m - 1) ≤ head := Nat.div_le_self _ _
    have hml : head / v (m - 1) * v (m - 1) ≤ head := Nat.div_mul_le_self _ _
    have e2 : lN head / lN (v (m - 1)) = lN (head / v (m - 1)) := pk_lDiv (by omega) (by omega) (by omega)
    have e3 : lN head - lN (head / v (m - 1)) * lN (v (m - 1)) = lN (head % v (m - 1)) := by
      rw [lN_mul, lN_sub hml]
      congr 1
      rw [Nat.mul_comm]
      omega
    refine zd_go (ok_Dv_guessLimb hG hl) [116] 60 ?_
    conv => whnf
    refine ⟨_, _, Or.inl hU.2.1, vp_in_nI (by omega) (by omega), ?_⟩
    rw [nI_clamp (by omega)]
    conv => whnf
    refine ⟨_, _, Or.inl hU.2.1, by rw [show (1 : Int32) = nI 1 from rfl, pk_sub (by omega)]; exact vp_in_nI (by omega) (by omega), ?_⟩
    rw [show (1 : Int32) = nI 1 from rfl, pk_sub (by omega), nI_clamp (by omega)]
    conv => whnf
    refine ⟨fun q => by have := (pk_lEQ (a := v (m - 1)) (b := 0) (by omega) (by omega)).mp q; omega, ?_⟩
    rw [e1, e2]
    conv => whnf
    refine ⟨?_, trivial⟩
    have := w_Dv_guess116 (a0 := .ref (zd_b0 B + d)) (a1 := .ref (zd_b0 B + r + 1)) (a2 := nI (at0 + m)) (a3 := nI m) (h := h) (Q := Q) hG hl (q := zv 1000000000 (fun i => u (at0 + i)) (m + 1) / zv 1000000000 v m) (d1 := v (m - 1)) (sec := sec) (th := th) (head := head) hd1 v1 hs ht (by omega) ((Nat.div_lt_iff_lt_mul hD0).mpr hWD) (fun x hx => hk.le ((Nat.le_div_iff_mul_le hD0).mp hx))
      (fun x x1 x2 x3 => hq x x1 x2 ?_) 2 0 (head / v (m - 1)) (head % v (m - 1)) (by omega) (by rw [Nat.mul_comm]; omega) (by omega) ?_
    · rw [← e3, nI_0] at this
      exact this
    · have := hk.ge x3 (by omega) (by omega)
      rw [← Nat.add_div_right _ hD0]
      exact (Nat.le_div_iff_mul_le hD0).mpr this
    · refine (Nat.le_div_iff_mul_le (by omega)).mpr ?_
      have := hk.le (Nat.div_mul_le_self (zv 1000000000 (fun i => u (at0 + i)) (m + 1)) (zv 1000000000 v m))
      rw [Nat.mul_add, ← Nat.mul_assoc] at this
      omega
  have b39 : zd_W l B m_Dv_guessLimb 39 [some (.ref (zd_b0 B + d)), some (.ref (zd_b0 B + r + 1)), some (.int (nI (at0 + m))), some (.int (nI m)), some (.long (lN (v (m - 1)))), none, none, none, none, none, none, none, none, none, none, none, none] [] h Q := by
    rcases (show m = 1 ∨ 2 ≤ m by omega) with c | c
    · subst c
      have hk := kn_of1 (D := zv 1000000000 v 1) (W := zv 1000000000 (fun i => u (at0 + i)) 2) (d1 := v 0) (head := u (at0 + 1) * 1000000000 + u at0) (by simp [zv]) (by simp [zv]; omega)
      have := b79 0 0 (by omega) (by omega) hk
      have le1 : nI 1 ≤ 1 := by decide
      refine zd_go (ok_Dv_guessLimb hG hl) [79] 60 ?_
      conv => whnf
      refine ⟨fun z => ?_, fun z => absurd le1 z⟩
      conv => whnf
      refine ⟨fun z => ?_, fun z => absurd le1 z⟩
      conv => whnf
      refine ⟨?_, trivial⟩
      rw [lN_0] at this
      exact this
    · obtain ⟨mm, rfl⟩ : ∃ mm, m = mm + 2 := ⟨m - 2, by omega⟩
      have hk := kn_of2 (m := mm) (at0 := at0) hU.2.2.2.2 hV.2.2.2.2
      have := b79 (v mm) (u (at0 + mm)) (hV.2.2.2.2 _) (hU.2.2.2.2 _) hk
      have n2 : nI (mm + 2) - 2 = nI mm := by rw [show (2 : Int32) = nI 2 from rfl, pk_sub (by omega)]; rfl
      have n3 : nI (at0 + (mm + 2)) - 2 = nI (at0 + mm) := by rw [show (2 : Int32) = nI 2 from rfl, pk_sub (by omega)]; rfl
      have v3 := hV.2.2.2.2 mm
      have v4 := hV.2.2.2.2 (mm + 1)
      have u3 := hU.2.2.2.2 (at0 + mm)
      have b60 : zd_W l B m_Dv_guessLimb 60 [some (.ref (zd_b0 B + d)), some (.ref (zd_b0 B + r + 1)), some (.int (nI (at0 + (mm + 2)))), some (.int (nI (mm + 2))), some (.long (lN (v (mm + 1)))), none, none, none, none, none, none, none, none, none, none, none, none] [.long (lN (v mm))] h Q := by
        refine zd_go (ok_Dv_guessLimb hG hl) [79] 60 ?_
        conv => whnf
        refine ⟨fun z => absurd z (nI_ge (a := 1) (by omega) (by omega)), fun z => ?_⟩
        conv => whnf
        refine ⟨_, _, Or.inl hU.2.1, by rw [n3]; exact vp_in_nI (by omega) (by omega), ?_⟩
        rw [n3, nI_clamp (by omega)]
        conv => whnf
        refine ⟨?_, trivial⟩
        rw [nI_l (by omega)]
        exact this
      refine zd_go (ok_Dv_guessLimb hG hl) [60] 60 ?_
      conv => whnf
      refine ⟨fun z => absurd z (nI_ge (a := 1) (by omega) (by omega)), fun z => ?_⟩
      conv => whnf
      refine ⟨_, hD, ?_⟩
      conv => whnf
      refine ⟨_, hV.1, ?_⟩
      conv => whnf
      refine ⟨_, _, Or.inl hV.2.1, by rw [n2]; exact vp_in_nI (by omega) (by omega), ?_⟩
      rw [n2, nI_clamp (by omega)]
      conv => whnf
      refine ⟨?_, trivial⟩
      rw [nI_l (by omega)]
      exact b60
  have n1 : nI m - 1 = nI (m - 1) := by rw [show (1 : Int32) = nI 1 from rfl, pk_sub (by omega)]
  have c0 : 0 < lg_cmp (nI (v (m - 1))).toInt64 0 := by
    rw [nI_l (by omega)]
    exact (lg_cmp_gt _ _).mpr ((pk_lLT (a := 0) (b := v (m - 1)) (by omega) (by omega)).mpr (by omega))
  refine zd_go (ok_Dv_guessLimb hG hl) [39] 60 ?_
  conv => whnf
  refine ⟨_, hD, ?_⟩
  conv => whnf
  refine ⟨_, hV.1, ?_⟩
  conv => whnf
  refine ⟨fun z => absurd z (nI_ge (a := 0) (by omega) (by omega)), fun z => ?_⟩
  conv => whnf
  refine ⟨_, hD, ?_⟩
  conv => whnf
  refine ⟨_, hV.1, ?_⟩
  conv => whnf
  refine ⟨_, _, Or.inl hV.2.1, by rw [n1]; exact vp_in_nI (by omega) (by omega), ?_⟩
  rw [n1, nI_clamp (by omega)]
  conv => whnf
  refine ⟨fun z => ?_, fun z => absurd c0 z⟩
  conv => whnf
  refine ⟨?_, trivial⟩
  rw [nI_l (by omega)]
  exact b39
end DC

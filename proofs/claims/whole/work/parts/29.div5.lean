/-! Divider: takeLimb -/
theorem take_more {W D U t c x y M : Nat} (hW : W = U + t * M) (hy : y < M) (hD : D < M) (hD0 : 0 < D) (he : y + x * D = U + c * M) (htc : t < c) (hx : x ≤ W / D + 1) : x = W / D + 1 ∧ y + D = W % D + M := by
  have e1 := Nat.div_add_mod W D
  have r1 := Nat.mod_lt W hD0
  have h1 : (t + 1) * M ≤ c * M := Nat.mul_le_mul_right _ htc
  rw [Nat.add_mul, Nat.one_mul] at h1
  have hx2 : ¬ x ≤ W / D := fun q => by
    have : x * D ≤ W / D * D := Nat.mul_le_mul_right _ q
    rw [Nat.mul_comm (W / D)] at this
    omega
  have ex : x = W / D + 1 := by omega
  refine ⟨ex, ?_⟩
  rw [ex, Nat.add_mul, Nat.one_mul, Nat.mul_comm (W / D)] at he
  have h2 : ¬ t + 1 < c := fun q => by
    have : (t + 2) * M ≤ c * M := Nat.mul_le_mul_right _ q
    rw [Nat.add_mul] at this
    omega
  have ec : c = t + 1 := by omega
  rw [ec, Nat.add_mul, Nat.one_mul] at he
  omega
theorem take_even {W D U t c x y M : Nat} (hW : W = U + t * M) (hD : D < M) (hD0 : 0 < D) (he : y + x * D = U + c * M) (htc : c ≤ t) (hx : W / D ≤ x) : x = W / D ∧ y = W % D := by
  have e1 := Nat.div_add_mod W D
  have r1 := Nat.mod_lt W hD0
  have h1 : c * M ≤ t * M := Nat.mul_le_mul_right _ htc
  have hx2 : x ≤ W / D := (Nat.le_div_iff_mul_le hD0).mpr (by omega)
  have ex : x = W / D := by omega
  refine ⟨ex, ?_⟩
  rw [ex, Nat.mul_comm (W / D)] at he
  have h2 : ¬ c < t := fun q => by
    have : (c + 1) * M ≤ t * M := Nat.mul_le_mul_right _ q
    rw [Nat.add_mul, Nat.one_mul] at this
    omega
  have ec : c = t := by omega
  rw [ec] at he
  omega
section DE
variable {l : Launch} {B : zd_B} {h : zd_H} {Q : zd_O → zd_H → Prop}
theorem c_Dv_takeLimb (hG : zd_G B) (hl : l.stackTraces = false) {d r R n m at0 : Nat} {u v : Nat → Nat} (hD : Dvd B h d) (hV : Nt B h (d + 1) 226 v m) (hU : Nt B h r R u n) (hrd : r + 1 < d ∨ d + 2 < r) (hm : 0 < m) (hat : at0 + m < R) (hd1 : 500000000 ≤ v (m - 1)) (hWD : zv 1000000000 (fun i => u (at0 + i)) (m + 1) < 1000000000 * zv 1000000000 v m)
    (hq : ∀ h' u', Fg B h h' (NS B r) 0 → Nt B h' r R u' n → (∀ j, (j < at0 ∨ at0 + m < j) → u' j = u j) → u' (at0 + m) = 0 → zv 1000000000 (fun i => u' (at0 + i)) m = zv 1000000000 (fun i => u (at0 + i)) (m + 1) % zv 1000000000 v m → Q (.inl (some (.int (nI (zv 1000000000 (fun i => u (at0 + i)) (m + 1) / zv 1000000000 v m))))) h') :
    zd_M l B m_Dv_takeLimb [.ref (zd_b0 B + d), .ref (zd_b0 B + r + 1), .int (nI at0)] h Q := by
  have r1 := hV.2.2.1
  have r2 := hU.2.2.2.1
  have hD0 : 0 < zv 1000000000 v m := by omega
  have hDM : zv 1000000000 v m < 1000000000 ^ m := zv_lt (fun i _ => hV.2.2.2.2 i)
  have hWs : zv 1000000000 (fun i => u (at0 + i)) (m + 1) = zv 1000000000 (fun i => u (at0 + i)) m + u (at0 + m) * 1000000000 ^ m := rfl
  refine zd_go (ok_Dv_takeLimb hG hl) [] 60 ?_
  conv => whnf
  refine ⟨_, hD, ?_⟩
  conv => whnf
  refine ⟨_, hV.1, ?_⟩
  conv => whnf
  refine ⟨⟨_, hD⟩, ⟨rfl, Nat.le_of_ble_eq_true rfl, Nat.le_of_ble_eq_true rfl⟩, ?_⟩
  rw [nI_add]
  refine c_Dv_guessLimb hG hl hD hV hU hm hat hd1 hWD (fun x x1 x2 x3 => ?_)
  conv => whnf
  refine ⟨fun z => ?_, fun z => ?_⟩
  · have z' : x = 0 := by
      have := (pk_lLE (a := x) (b := 0) (by omega) (by omega)).mp ((lg_cmp_le _ _).mp z)
      omega
    have q0 : zv 1000000000 (fun i => u (at0 + i)) (m + 1) / zv 1000000000 v m = 0 := Nat.eq_zero_of_le_zero (by rw [z'] at x2; exact x2)
    have hlt : zv 1000000000 (fun i => u (at0 + i)) (m + 1) < zv 1000000000 v m := by
      have := Nat.div_add_mod (zv 1000000000 (fun i => u (at0 + i)) (m + 1)) (zv 1000000000 v m)
      rw [q0, Nat.mul_zero, Nat.zero_add] at this
      rw [← this]
      exact Nat.mod_lt _ hD0
    have ut : u (at0 + m) = 0 := by
      rcases Nat.eq_zero_or_pos (u (at0 + m)) with c | c
      · exact c
      · have : 1 * 1000000000 ^ m ≤ u (at0 + m) * 1000000000 ^ m := Nat.mul_le_mul_right _ c
        omega
    have := hq h u Fg.rf hU (fun _ _ => rfl) ut (by rw [Nat.mod_eq_of_lt hlt, hWs, ut]; omega)
    rw [q0] at this
    rw [z']
    conv => whnf
    refine ⟨rfl, ?_, trivial⟩
    rw [lN_i]
    exact this
  · have z' : 0 < x := by
      rcases Nat.eq_zero_or_pos x with c | c
      · exact absurd (by rw [c]; decide) z
      · exact c
    conv => whnf
    refine ⟨⟨_, hD⟩, ⟨rfl, Nat.le_of_ble_eq_true rfl, Nat.le_of_ble_eq_true rfl⟩, ?_⟩
    refine c_Dv_subtractTimes hG hl hD hV hU hrd hat x1 (fun h1 u1 c a1 a2 a3 a4 a5 => ?_)
    have hy : zv 1000000000 (fun i => u1 (at0 + i)) m < 1000000000 ^ m := zv_lt (fun i _ => a2.2.2.2.2 _)
    by_cases hc : u (at0 + m) < c
    · obtain ⟨t1, t2⟩ := take_more hWs hy hDM hD0 a5 hc x3
      rw [if_pos hc]
      conv => whnf
      refine ⟨fun z2 => absurd z2 (by decide), fun z2 => ?_⟩
      conv => whnf
      have hD1 := hD.kept a1 (NS_o (by omega))
      have hV1 := hV.kept a1 (NS_n (B := B) (k := r) (j := d + 1) (by omega)).1 (NS_n (B := B) (k := r) (j := d + 1) (by omega)).2
      refine ⟨⟨_, hD1⟩, ⟨rfl, Nat.le_of_ble_eq_true rfl, Nat.le_of_ble_eq_true rfl⟩, ?_⟩
      refine c_Dv_giveBack hG hl hD1 hV1 a2 hrd hat (fun h2 u2 c2 b1 b2 b3 b4 b5 => ?_)
      have hy2 : zv 1000000000 (fun i => u2 (at0 + i)) m < 1000000000 ^ m := zv_lt (fun i _ => b2.2.2.2.2 _)
      have e2 : zv 1000000000 (fun i => u2 (at0 + i)) m = zv 1000000000 (fun i => u (at0 + i)) (m + 1) % zv 1000000000 v m := by
        rcases (show c2 = 0 ∨ c2 = 1 by omega) with q | q
        · rw [q, Nat.zero_mul, Nat.add_zero, t2] at b5
          omega
        · rw [q, Nat.one_mul, t2] at b5
          omega
      conv => whnf
      refine ⟨rfl, ?_, trivial⟩
      have := hq h2 u2 (a1.tr0 b1) b2 (fun j hj => (b3 j (by omega)).trans (a3 j hj)) ((b3 _ (Or.inr (Nat.le_refl _))).trans a4) e2
      rw [show (1 : Int64) = lN 1 from rfl, lN_sub (by omega), lN_i, show x - 1 = zv 1000000000 (fun i => u (at0 + i)) (m + 1) / zv 1000000000 v m by rw [t1]; exact Nat.add_sub_cancel _ _]
      exact this
    · obtain ⟨t1, t2⟩ := take_even hWs hDM hD0 a5 (by omega) x2
      rw [if_neg hc]
      conv => whnf
      refine ⟨fun z2 => ?_, fun z2 => absurd rfl z2⟩
      conv => whnf
      refine ⟨rfl, ?_, trivial⟩
      have := hq h1 u1 a1 a2 a3 a4 t2
      rw [lN_i, t1]
      exact this
end DE

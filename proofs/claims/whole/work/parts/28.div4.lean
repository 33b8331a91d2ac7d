/-! Divider: subtractTimes, giveBack -/
theorem Dvd.kept {B : zd_B} {h h' : zd_H} {S : Nat → Prop} {d : Nat} (a : Dvd B h d) (f : Fg B h h' S 0) (hn : ¬ S (zd_b0 B + d)) : Dvd B h' d := f.ob a hn
theorem sub_step {q v c P Z Z0 V u y x c1 b : Nat} (e1 : q * v + c = c1 * 1000000000 + x) (e2 : y + x = u + b * 1000000000) (h : Z + q * V = Z0 + c * P) : Z + y * P + q * (V + v * P) = Z0 + u * P + (c1 + b) * (P * 1000000000) := by
  have e3 : (y + x) * P = (u + b * 1000000000) * P := by rw [e2]
  have e4 : (q * v + c) * P = (c1 * 1000000000 + x) * P := by rw [e1]
  have e5 : q * (V + v * P) = q * V + q * v * P := by rw [Nat.mul_add, Nat.mul_assoc]
  have e6 : (c1 + b) * (P * 1000000000) = c1 * 1000000000 * P + b * 1000000000 * P := by rw [Nat.add_mul, Nat.mul_comm P, ← Nat.mul_assoc, ← Nat.mul_assoc]
  rw [e5, e6]
  rw [Nat.add_mul, Nat.add_mul] at e3 e4
  omega
section DD
variable {l : Launch} {B : zd_B} {h : zd_H} {Q : zd_O → zd_H → Prop}
theorem w_Dv_sub24 (hG : zd_G B) (hl : l.stackTraces = false) {d r R n m at0 q : Nat} {u0 v : Nat → Nat} (hV : Nt B h (d + 1) 226 v m) (hrd : r + 1 < d ∨ d + 2 < r) (hat : at0 + m < R) (hqB : q < 1000000000)
    (hq : ∀ h' u' c, Fg B h h' (NS B r) 0 → Nt B h' r R u' n → (∀ j, (j < at0 ∨ at0 + m < j) → u' j = u0 j) → u' (at0 + m) = 0 → zv 1000000000 (fun i => u' (at0 + i)) m + q * zv 1000000000 v m = zv 1000000000 (fun i => u0 (at0 + i)) m + c * 1000000000 ^ m → Q (.inl (some (.int (if u0 (at0 + m) < c then 1 else 0)))) h') :
    ∀ (e i : Nat) (h1 : zd_H) (u : Nat → Nat) (c : Nat) (w10 w12 : Option Value), i + e = m → Fg B h h1 (NS B r) 0 → Nt B h1 r R u n → (∀ j, (j < at0 ∨ at0 + i ≤ j) → u j = u0 j) → c ≤ 1000000000 → zv 1000000000 (fun i => u (at0 + i)) i + q * zv 1000000000 v i = zv 1000000000 (fun i => u0 (at0 + i)) i + c * 1000000000 ^ i →
      zd_W l B m_Dv_subtractTimes 24 [some (.ref (zd_b0 B + d)), some (.ref (zd_b0 B + r + 1)), some (.int (nI at0)), some (.long (lN q)), none, some (.ref (zd_b0 B + (d + 1) + 1)), some (.int (nI m)), some (.long (lN c)), none, some (.int (nI i)), w10, none, w12] [] h1 Q := by
  intro e
  induction e with
  | zero =>
    intro i h1 u c w10 w12 he f hN hj hc hv
    have hi : i = m := by omega
    subst hi
    have r1 := hV.2.2.1
    have r2 := hN.2.2.2.1
    have ul := hN.2.2.2.2 (at0 + i)
    have fin : ∀ b : Nat, b = (if u (at0 + i) < c then 1 else 0) → zd_W l B m_Dv_subtractTimes 121 [some (.ref (zd_b0 B + d)), some (.ref (zd_b0 B + r + 1)), some (.int (nI at0)), some (.long (lN q)), none, some (.ref (zd_b0 B + (d + 1) + 1)), some (.int (nI i)), some (.long (lN c)), none, some (.int (nI i)), w10, none, w12] [.int (nI b)] h1 Q := by
      intro b hb
      have hb1 : b ≤ 1 := by rw [hb]; split <;> omega
      refine zd_go (ok_Dv_subtractTimes hG hl) [] 60 ?_
      conv => whnf
      refine ⟨_, _, hN.2.1, by rw [nI_add]; exact vp_in_nI (by omega) (by omega), ?_⟩
      rw [nI_add, nI_clamp (by omega), show (0 : Int32) = nI 0 from nI_0.symm]
      conv => whnf
      refine ⟨?_, ?_, trivial⟩
      · rcases (show b = 0 ∨ b = 1 by omega) with e | e <;> rw [e] <;> rfl
      · have := hq _ (zu u (at0 + i) 0) c (f.set2 (Or.inr rfl)) (hN.put (i := at0 + i) (v := 0) (by omega)) (fun j hj2 => by rw [zu_n (by omega)]; exact hj j (by omega)) zu_s (by
          rw [zv_congr (g := fun j => zu u (at0 + i) 0 (at0 + j)) (g' := fun j => u (at0 + j)) (fun j hj2 => zu_n (by omega))]
          exact hv)
        rw [← hj (at0 + i) (Or.inr (Nat.le_refl _)), ind_nI, ← hb] at this
        exact this
    refine zd_go (ok_Dv_subtractTimes hG hl) [121] 60 ?_
    conv => whnf
    refine ⟨fun z => ?_, fun z => absurd (Int32.le_refl _) z⟩
    conv => whnf
    refine ⟨_, _, Or.inl hN.2.1, by rw [nI_add]; exact vp_in_nI (by omega) (by omega), ?_⟩
    rw [nI_add, nI_clamp (by omega)]
    conv => whnf
    rw [nI_l (by omega)]
    refine ⟨fun z => ?_, fun z => ?_⟩
    · have z' : c ≤ u (at0 + i) := (pk_lLE (by omega) (by omega)).mp ((lg_cmp_ge _ _).mp z)
      conv => whnf
      have := fin 0 (by rw [if_neg (by omega)])
      rw [nI_0] at this
      exact ⟨this, trivial⟩
    · have z' : ¬ c ≤ u (at0 + i) := fun q => z ((lg_cmp_ge _ _).mpr ((pk_lLE (by omega) (by omega)).mpr q))
      conv => whnf
      have := fin 1 (by rw [if_pos (by omega)])
      exact ⟨this, trivial⟩
  | succ e ih =>
    intro i h1 u c w10 w12 he f hN hj hc hv
    have r1 := hV.2.2.1
    have r2 := hN.2.2.2.1
    have hV1 := hV.kept f (NS_n (B := B) (k := r) (j := d + 1) (by omega)).1 (NS_n (B := B) (k := r) (j := d + 1) (by omega)).2
    have vl := hV.2.2.2.2 i
    have ul := hN.2.2.2.2 (at0 + i)
    have hqv : q * v i ≤ 999999999 * 999999999 := Nat.mul_le_mul (by omega) (by omega)
    obtain ⟨part, hp⟩ : ∃ part, part = q * v i + c := ⟨_, rfl⟩
    have e1 : lN q * (nI (v i)).toInt64 + lN c = lN part := by rw [nI_l (by omega), lN_mul, lN_add, hp]
    have e2 : lN part / 1000000000 = lN (part / 1000000000) := pk_lDiv (b := 1000000000) (by omega) (by omega) (by omega)
    have e3 : lN part - lN (part / 1000000000) * 1000000000 = lN (part % 1000000000) := by
      rw [show (1000000000 : Int64) = lN 1000000000 from rfl, lN_mul, lN_sub (by omega)]
      congr 1
      omega
    have fin : ∀ (y b : Nat) , y < 1000000000 → b ≤ 1 → y + part % 1000000000 = u (at0 + i) + b * 1000000000 → zd_W l B m_Dv_subtractTimes 89 [some (.ref (zd_b0 B + d)), some (.ref (zd_b0 B + r + 1)), some (.int (nI at0)), some (.long (lN q)), none, some (.ref (zd_b0 B + (d + 1) + 1)), some (.int (nI m)), some (.long (lN (part / 1000000000 + b))), none, some (.int (nI i)), some (.long (lN part)), none, some (.int (nI y))] [] h1 Q := by
      intro y b hy hb hyb
      have := ih (i + 1) _ (zu u (at0 + i) y) (part / 1000000000 + b) (some (.long (lN part))) (some (.int (nI y))) (by omega) (f.set2 (Or.inr rfl)) (hN.put (i := at0 + i) hy) (fun j hj2 => by rw [zu_n (by omega)]; exact hj j (by omega)) (by omega) (by
        rw [zv_succ, zv_succ, zv_succ, zu_s, zv_congr (g := fun j => zu u (at0 + i) y (at0 + j)) (g' := fun j => u (at0 + j)) (fun j hj2 => zu_n (by omega)), Nat.pow_succ, ← hj (at0 + i) (Or.inr (Nat.le_refl _))]
        exact sub_step (c := c) (x := part % 1000000000) (by rw [← hp]; omega) hyb hv)
      rw [← nI_1 i] at this
      refine zd_go (ok_Dv_subtractTimes hG hl) [24] 60 ?_
      conv => whnf
      refine ⟨_, _, hN.2.1, by rw [nI_add]; exact vp_in_nI (by omega) (by omega), ?_⟩
      rw [nI_add, nI_clamp (by omega)]
      conv => whnf
      exact ⟨this, trivial⟩
    refine zd_go (ok_Dv_subtractTimes hG hl) [24, 89] 60 ?_
    conv => whnf
    refine ⟨fun z => absurd z (nI_ge (by omega) (by omega)), fun z => ?_⟩
    conv => whnf
    refine ⟨_, _, Or.inl hV1.2.1, vp_in_nI (by omega) (by omega), ?_⟩
    rw [nI_clamp (by omega)]
    conv => whnf
    refine ⟨by decide, ?_⟩
    rw [e1, e2]
    conv => whnf
    refine ⟨_, _, Or.inl hN.2.1, by rw [nI_add]; exact vp_in_nI (by omega) (by omega), ?_⟩
    rw [nI_add, nI_clamp (by omega)]
    conv => whnf
    rw [e3, lN_i]
    have xl : part % 1000000000 < 1000000000 := Nat.mod_lt _ (by omega)
    have ei : nI (u (at0 + i)) - nI (part % 1000000000) = iI ((u (at0 + i) : Int) - (part % 1000000000 : Nat)) := by rw [iI_nI, iI_nI, iI_sub]
    have rr : iR ((u (at0 + i) : Int) - (part % 1000000000 : Nat)) := ⟨by omega, by omega⟩
    rw [ei]
    refine ⟨fun z => ?_, fun z => ?_⟩
    · have z' : (0 : Int) ≤ (u (at0 + i) : Int) - (part % 1000000000 : Nat) := (iI_le ⟨by omega, by omega⟩ rr).mp z
      have := fin (u (at0 + i) - part % 1000000000) 0 (by omega) (by omega) (by omega)
      rw [Nat.add_zero, show nI (u (at0 + i) - part % 1000000000) = iI ((u (at0 + i) : Int) - (part % 1000000000 : Nat)) by rw [iI_nI]; congr 1; omega] at this
      conv => whnf
      exact ⟨this, trivial⟩
    · have z' : ¬ (0 : Int) ≤ (u (at0 + i) : Int) - (part % 1000000000 : Nat) := fun q => z ((iI_le ⟨by omega, by omega⟩ rr).mpr q)
      have := fin (u (at0 + i) + 1000000000 - part % 1000000000) 1 (by omega) (by omega) (by omega)
      rw [← lN_1, show nI (u (at0 + i) + 1000000000 - part % 1000000000) = iI ((u (at0 + i) : Int) - (part % 1000000000 : Nat)) + 1000000000 by rw [iI_nI, show (1000000000 : Int32) = iI 1000000000 from rfl, iI_add]; congr 1; omega] at this
      conv => whnf
      exact ⟨this, trivial⟩
theorem c_Dv_subtractTimes (hG : zd_G B) (hl : l.stackTraces = false) {d r R n m at0 q : Nat} {u v : Nat → Nat} (hD : Dvd B h d) (hV : Nt B h (d + 1) 226 v m) (hU : Nt B h r R u n) (hrd : r + 1 < d ∨ d + 2 < r) (hat : at0 + m < R) (hqB : q < 1000000000)
    (hq : ∀ h' u' c, Fg B h h' (NS B r) 0 → Nt B h' r R u' n → (∀ j, (j < at0 ∨ at0 + m < j) → u' j = u j) → u' (at0 + m) = 0 → zv 1000000000 (fun i => u' (at0 + i)) m + q * zv 1000000000 v m = zv 1000000000 (fun i => u (at0 + i)) m + c * 1000000000 ^ m → Q (.inl (some (.int (if u (at0 + m) < c then 1 else 0)))) h') :
    zd_M l B m_Dv_subtractTimes [.ref (zd_b0 B + d), .ref (zd_b0 B + r + 1), .int (nI at0), .long (lN q)] h Q := by
  have := w_Dv_sub24 hG hl hV hrd hat hqB hq m 0 h u 0 none none (by omega) Fg.rf hU (fun _ _ => rfl) (by omega) (by simp [zv])
  rw [nI_0, lN_0] at this
  refine zd_go (ok_Dv_subtractTimes hG hl) [24] 60 ?_
  conv => whnf
  refine ⟨_, hD, ?_⟩
  conv => whnf
  refine ⟨_, hV.1, ?_⟩
  conv => whnf
  refine ⟨_, hD, ?_⟩
  conv => whnf
  refine ⟨_, hV.1, ?_⟩
  conv => whnf
  exact ⟨this, trivial⟩
theorem w_Dv_give5 (hG : zd_G B) (hl : l.stackTraces = false) {d r R n m at0 : Nat} {u0 v : Nat → Nat} (hD : Dvd B h d) (hV : Nt B h (d + 1) 226 v m) (hrd : r + 1 < d ∨ d + 2 < r) (hat : at0 + m < R)
    (hq : ∀ h' u' c, Fg B h h' (NS B r) 0 → Nt B h' r R u' n → (∀ j, (j < at0 ∨ at0 + m ≤ j) → u' j = u0 j) → c ≤ 1 → zv 1000000000 (fun i => u' (at0 + i)) m + c * 1000000000 ^ m = zv 1000000000 (fun i => u0 (at0 + i)) m + zv 1000000000 v m → Q (.inl none) h') :
    ∀ (e i : Nat) (h1 : zd_H) (u : Nat → Nat) (c : Nat) (w5 : Option Value), i + e = m → Fg B h h1 (NS B r) 0 → Nt B h1 r R u n → (∀ j, (j < at0 ∨ at0 + i ≤ j) → u j = u0 j) → c ≤ 1 → zv 1000000000 (fun i => u (at0 + i)) i + c * 1000000000 ^ i = zv 1000000000 (fun i => u0 (at0 + i)) i + zv 1000000000 v i →
      zd_W l B m_Dv_giveBack 5 [some (.ref (zd_b0 B + d)), some (.ref (zd_b0 B + r + 1)), some (.int (nI at0)), some (.int (nI c)), some (.int (nI i)), w5] [] h1 Q := by
  intro e
  induction e with
  | zero =>
    intro i h1 u c w5 he f hN hj hc hv
    have hi : i = m := by omega
    subst hi
    have hV1 := hV.kept f (NS_n (B := B) (k := r) (j := d + 1) (by omega)).1 (NS_n (B := B) (k := r) (j := d + 1) (by omega)).2
    have hD1 := hD.kept f (NS_o (by omega))
    refine zd_go (ok_Dv_giveBack hG hl) [] 60 ?_
    conv => whnf
    refine ⟨_, hD1, ?_⟩
    conv => whnf
    refine ⟨_, hV1.1, ?_⟩
    conv => whnf
    refine ⟨fun z => ?_, fun z => absurd (Int32.le_refl _) z⟩
    conv => whnf
    exact ⟨hq h1 u c f hN hj hc hv, trivial⟩
  | succ e ih =>
    intro i h1 u c w5 he f hN hj hc hv
    have r1 := hV.2.2.1
    have r2 := hN.2.2.2.1
    have hV1 := hV.kept f (NS_n (B := B) (k := r) (j := d + 1) (by omega)).1 (NS_n (B := B) (k := r) (j := d + 1) (by omega)).2
    have hD1 := hD.kept f (NS_o (by omega))
    have vl := hV.2.2.2.2 i
    have ul := hN.2.2.2.2 (at0 + i)
    obtain ⟨part, hp⟩ : ∃ part : Int, part = (u (at0 + i) : Int) - 1000000000 + v i + c := ⟨_, rfl⟩
    have ep : nI (u (at0 + i)) - 1000000000 + nI (v i) + nI c = iI part := by
      rw [iI_nI, iI_nI, iI_nI, show (1000000000 : Int32) = iI 1000000000 from rfl, iI_sub, iI_add, iI_add, hp]
    have pR : iR part := ⟨by omega, by omega⟩
    have fin : ∀ (y b : Nat), y < 1000000000 → b ≤ 1 → y + b * 1000000000 = u (at0 + i) + v i + c → zd_W l B m_Dv_giveBack 72 [some (.ref (zd_b0 B + d)), some (.ref (zd_b0 B + r + 1)), some (.int (nI at0)), some (.int (nI b)), some (.int (nI i)), some (.int (iI part))] [.int (nI y), .int (nI (at0 + i)), .ref (zd_b0 B + r + 1)] h1 Q := by
      intro y b hy hb hyb
      have := ih (i + 1) _ (zu u (at0 + i) y) b (some (.int (iI part))) (by omega) (f.set2 (Or.inr rfl)) (hN.put (i := at0 + i) hy) (fun j hj2 => by rw [zu_n (by omega)]; exact hj j (by omega)) hb (by
        rw [zv_succ, zv_succ, zv_succ, zu_s, zv_congr (g := fun j => zu u (at0 + i) y (at0 + j)) (g' := fun j => u (at0 + j)) (fun j hj2 => zu_n (by omega)), Nat.pow_succ, ← hj (at0 + i) (Or.inr (Nat.le_refl _))]
        have e3 : (y + b * 1000000000) * 1000000000 ^ i = (u (at0 + i) + v i + c) * 1000000000 ^ i := by rw [hyb]
        rw [Nat.add_mul, Nat.add_mul, Nat.add_mul, Nat.mul_assoc, Nat.mul_comm 1000000000] at e3
        omega)
      rw [← nI_1 i] at this
      refine zd_go (ok_Dv_giveBack hG hl) [5] 60 ?_
      conv => whnf
      refine ⟨_, _, hN.2.1, vp_in_nI (by omega) (by omega), ?_⟩
      rw [nI_clamp (by omega)]
      conv => whnf
      exact ⟨this, trivial⟩
    refine zd_go (ok_Dv_giveBack hG hl) [5, 72] 60 ?_
    conv => whnf
    refine ⟨_, hD1, ?_⟩
    conv => whnf
    refine ⟨_, hV1.1, ?_⟩
    conv => whnf
    refine ⟨fun z => absurd z (nI_ge (by omega) (by omega)), fun z => ?_⟩
    conv => whnf
    refine ⟨_, _, Or.inl hN.2.1, by rw [nI_add]; exact vp_in_nI (by omega) (by omega), ?_⟩
    rw [nI_add, nI_clamp (by omega)]
    conv => whnf
    refine ⟨_, hD1, ?_⟩
    conv => whnf
    refine ⟨_, hV1.1, ?_⟩
    conv => whnf
    refine ⟨_, _, Or.inl hV1.2.1, vp_in_nI (by omega) (by omega), ?_⟩
    rw [nI_clamp (by omega)]
    conv => whnf
    rw [ep]
    refine ⟨fun z => ?_, fun z => ?_⟩
    · have z' : part < 0 := (iI_lt pR ⟨by omega, by omega⟩).mp z
      have := fin (u (at0 + i) + v i + c) 0 (by omega) (by omega) (by omega)
      rw [nI_0, show nI (u (at0 + i) + v i + c) = iI part + 1000000000 by rw [iI_nI, show (1000000000 : Int32) = iI 1000000000 from rfl, iI_add]; congr 1; omega, ← nI_add] at this
      conv => whnf
      refine ⟨fun z2 => ?_, fun z2 => absurd z z2⟩
      conv => whnf
      exact ⟨this, trivial⟩
    · have z' : ¬ part < 0 := fun q => z ((iI_lt pR ⟨by omega, by omega⟩).mpr q)
      have := fin (u (at0 + i) + v i + c - 1000000000) 1 (by omega) (by omega) (by omega)
      rw [show nI (u (at0 + i) + v i + c - 1000000000) = iI part by rw [iI_nI]; congr 1; omega, ← nI_add] at this
      conv => whnf
      refine ⟨fun z2 => absurd z2 z, fun z2 => ?_⟩
      conv => whnf
      exact ⟨this, trivial⟩
theorem c_Dv_giveBack (hG : zd_G B) (hl : l.stackTraces = false) {d r R n m at0 : Nat} {u v : Nat → Nat} (hD : Dvd B h d) (hV : Nt B h (d + 1) 226 v m) (hU : Nt B h r R u n) (hrd : r + 1 < d ∨ d + 2 < r) (hat : at0 + m < R)
    (hq : ∀ h' u' c, Fg B h h' (NS B r) 0 → Nt B h' r R u' n → (∀ j, (j < at0 ∨ at0 + m ≤ j) → u' j = u j) → c ≤ 1 → zv 1000000000 (fun i => u' (at0 + i)) m + c * 1000000000 ^ m = zv 1000000000 (fun i => u (at0 + i)) m + zv 1000000000 v m → Q (.inl none) h') :
    zd_M l B m_Dv_giveBack [.ref (zd_b0 B + d), .ref (zd_b0 B + r + 1), .int (nI at0)] h Q := by
  have := w_Dv_give5 hG hl hD hV hrd hat hq m 0 h u 0 none (by omega) Fg.rf hU (fun _ _ => rfl) (by omega) (by simp [zv])
  rw [nI_0] at this
  refine zd_go (ok_Dv_giveBack hG hl) [5] 60 ?_
  conv => whnf
  exact ⟨this, trivial⟩
end DD

/-! Divider: split -/
/-- the cells that split writes -/
def DS (B : zd_B) (r s d : Nat) : Nat → Prop := fun a => NS B r a ∨ NS B s a ∨ NS B (d + 1) a
section DF
variable {l : Launch} {B : zd_B} {h : zd_H} {Q : zd_O → zd_H → Prop}
theorem w_Dv_split134 (hG : zd_G B) (hl : l.stackTraces = false) {d r b s R Rs L m N f : Nat} {u0 v : Nat → Nat} (hrd : r + 1 < d ∨ d + 2 < r) (hsd : s + 1 < d ∨ d + 2 < s) (hrs : r + 1 < s ∨ s + 1 < r) (hm : 0 < m) (hd1 : 500000000 ≤ v (m - 1)) (hu0 : ∀ i, u0 i < 1000000000) (hNm : N + m = L + 1) (hLR : L + 1 ≤ R) (hNR : N ≤ Rs) (hm2 : m ≤ 226) (hf : f < 1000000000) (hf1 : 1 ≤ f) (hR2 : R < 1000) (hv : ∀ i, v i < 1000000000)
    (hq : ∀ h', Fg B h h' (DS B r s d) 0 → Nv B h' r R ((zv 1000000000 u0 (L + 1) % zv 1000000000 v m) / f) → Nv B h' s Rs (zv 1000000000 u0 (L + 1) / zv 1000000000 v m) → Dvd B h' d → Nt B h' (d + 1) 226 v m → Q (.inl none) h') :
    ∀ (t : Nat) (h1 : zd_H) (u g : Nat → Nat), t ≤ N → Fg B h h1 (DS B r s d) 0 → Dvd B h1 d → Nt B h1 (d + 1) 226 v m → Nt B h1 r R u (L + 1) → Nt B h1 s Rs g N → (∀ j, j < t → u j = u0 j) → (∀ j, t + m ≤ j → j < L + 1 → u j = 0) → zv 1000000000 (fun i => u (t + i)) m < zv 1000000000 v m → zh 1000000000 u0 (L + 1) t = zh 1000000000 g N t * zv 1000000000 v m + zv 1000000000 (fun i => u (t + i)) m →
      zd_W l B m_Dv_split 134 [some (.ref (zd_b0 B + d)), some (.ref (zd_b0 B + r)), some (.ref (zd_b0 B + b)), some (.ref (zd_b0 B + s)), some (.int (nI f)), some (.int (nI L)), some (.int (nI t - 1))] [] h1 Q := by
  intro t
  induction t with
  | zero =>
    intro h1 u g ht fr hD hV hU hS hlow hhigh hrem hinv
    have hD0 : 0 < zv 1000000000 v m := by omega
    refine zd_go (ok_Dv_split hG hl) [] 60 ?_
    conv => whnf
    refine ⟨fun z => ?_, fun z => absurd (by decide) z⟩
    conv => whnf
    refine ⟨⟨_, hS.1⟩, ⟨rfl, Nat.le_of_ble_eq_true rfl, Nat.le_of_ble_eq_true rfl⟩, ?_⟩
    refine c_Na_trim hG hl hS (fun n1 h2 a1 a2 a3 a4 a5 => ?_)
    have hU2 := hU.kept a4 (NS_n (B := B) (k := s) (j := r) (by omega)).1 (NS_n (B := B) (k := s) (j := r) (by omega)).2
    conv => whnf
    refine ⟨⟨_, hU2.1⟩, ⟨rfl, Nat.le_of_ble_eq_true rfl, Nat.le_of_ble_eq_true rfl⟩, ?_⟩
    refine c_Na_trim hG hl hU2 (fun n2 h3 b1 b2 b3 b4 b5 => ?_)
    conv => whnf
    refine ⟨⟨_, b5.1⟩, ⟨rfl, Nat.le_of_ble_eq_true rfl, Nat.le_of_ble_eq_true rfl⟩, ?_⟩
    refine c_Na_overSmall hG hl b5 hf hf1 b3 (fun h4 u4 n4 c1 c2 c3 c4 c5 => ?_)
    conv => whnf
    rw [zh_0, zh_0] at hinv
    have ez : zv 1000000000 (fun i => u (0 + i)) m = zv 1000000000 u m := zv_congr (fun i _ => by rw [Nat.zero_add])
    rw [ez] at hinv hrem
    have ev : zv 1000000000 u (L + 1) = zv 1000000000 u m := by
      rw [show L + 1 = m + (L + 1 - m) by omega, zv_split, zv_zero (g := fun i => u (m + i)) (fun i hi => hhigh _ (by omega) (by omega)), Nat.mul_zero, Nat.add_zero]
    have eq : zv 1000000000 u0 (L + 1) / zv 1000000000 v m = zv 1000000000 g N := by
      rw [hinv, Nat.mul_comm, Nat.mul_add_div hD0, Nat.div_eq_of_lt hrem, Nat.add_zero]
    have er : zv 1000000000 u0 (L + 1) % zv 1000000000 v m = zv 1000000000 u m := by
      rw [hinv, Nat.mul_comm, Nat.mul_add_mod, Nat.mod_eq_of_lt hrem]
    have s1 : ∀ q, NS B s q → DS B r s d q := fun q z => Or.inr (Or.inl z)
    have s2 : ∀ q, NS B r q → DS B r s d q := fun q z => Or.inl z
    have nrs := NS_n (B := B) (k := r) (j := s) (by omega)
    have nrd := NS_n (B := B) (k := r) (j := d + 1) (by omega)
    have nsd := NS_n (B := B) (k := s) (j := d + 1) (by omega)
    refine ⟨hq h4 (((fr.tr0 (a4.mono s1)).tr0 (b4.mono s2)).tr0 (c1.mono s2)) ⟨u4, n4, c2, c3, by rw [c4, b2, ev, er]⟩ ?_ ?_ ?_, trivial⟩
    · exact ⟨g, n1, (a5.kept b4 nrs.1 nrs.2).kept c1 nrs.1 nrs.2, a3, by rw [a2, eq]⟩
    · exact ((hD.kept a4 (NS_o (by omega))).kept b4 (NS_o (by omega))).kept c1 (NS_o (by omega))
    · exact ((hV.kept a4 nsd.1 nsd.2).kept b4 nrd.1 nrd.2).kept c1 nrd.1 nrd.2
  | succ t ih =>
    intro h1 u g ht fr hD hV hU hS hlow hhigh hrem hinv
    have hD0 : 0 < zv 1000000000 v m := by omega
    have ul := hU.2.2.2.2 t
    have eW : zv 1000000000 (fun i => u (t + i)) (m + 1) = u t + 1000000000 * zv 1000000000 (fun i => u (t + 1 + i)) m := by
      rw [show m + 1 = 1 + m by omega, zv_split, Nat.pow_one]
      congr 1
      · simp [zv]
      · congr 1
        exact zv_congr (fun i _ => by rw [Nat.add_assoc])
    have hWD : zv 1000000000 (fun i => u (t + i)) (m + 1) < 1000000000 * zv 1000000000 v m := by rw [eW]; omega
    rw [nI_pred]
    refine zd_go (ok_Dv_split hG hl) [134] 60 ?_
    conv => whnf
    refine ⟨fun z => absurd z (nI_pos (by omega)), fun z => ?_⟩
    conv => whnf
    refine ⟨_, hS.1, ?_⟩
    conv => whnf
    refine ⟨_, hU.1, ?_⟩
    conv => whnf
    refine ⟨⟨_, hD⟩, ⟨rfl, Nat.le_of_ble_eq_true rfl, Nat.le_of_ble_eq_true rfl⟩, ?_⟩
    refine c_Dv_takeLimb hG hl hD hV hU hrd hm (by omega) hd1 hWD (fun h2 u2 a1 a2 a3 a4 a5 => ?_)
    have nrs := NS_n (B := B) (k := r) (j := s) (by omega)
    have nrd := NS_n (B := B) (k := r) (j := d + 1) (by omega)
    have nsr := NS_n (B := B) (k := s) (j := r) (by omega)
    have nsd := NS_n (B := B) (k := s) (j := d + 1) (by omega)
    have hS2 := hS.kept a1 nrs.1 nrs.2
    have hD2 := hD.kept a1 (NS_o (by omega))
    have hV2 := hV.kept a1 nrd.1 nrd.2
    have hdig : zv 1000000000 (fun i => u (t + i)) (m + 1) / zv 1000000000 v m < 1000000000 := (Nat.div_lt_iff_lt_mul hD0).mpr hWD
    have r3 := hS.2.2.2.1
    conv => whnf
    refine ⟨_, _, hS2.2.1, vp_in_nI (by omega) (by omega), ?_⟩
    rw [nI_clamp (by omega)]
    conv => whnf
    refine ⟨?_, trivial⟩
    have hS3 := hS2.put (i := t) hdig
    have fs : Fg B h2 (zd_set h2 (zd_b0 B + s + 1) (.inr (.inl (0, Rs, upd (fun i => nI (g i)) t (nI (zv 1000000000 (fun i => u (t + i)) (m + 1) / zv 1000000000 v m)))))) (NS B s) 0 := Fg.set (Or.inr rfl)
    show zd_W l B m_Dv_split 134 [some (.ref (zd_b0 B + d)), some (.ref (zd_b0 B + r)), some (.ref (zd_b0 B + b)), some (.ref (zd_b0 B + s)), some (.int (nI f)), some (.int (nI L)), some (.int (nI t + (-1)))] [] _ Q
    rw [show nI t + (-1) = nI t - 1 from (Int32.sub_eq_add_neg _ _).symm]
    refine ih _ u2 (zu g t (zv 1000000000 (fun i => u (t + i)) (m + 1) / zv 1000000000 v m)) (by omega) ((fr.tr0 (a1.mono (fun q z => Or.inl z))).tr0 (fs.mono (fun q z => Or.inr (Or.inl z)))) (hD2.kept fs (NS_o (by omega))) (hV2.kept fs nsd.1 nsd.2) (a2.kept fs nsr.1 nsr.2) hS3 (fun j hj => by rw [a3 j (by omega)]; exact hlow j (by omega)) (fun j hj1 hj2 => ?_) (by rw [a5]; exact Nat.mod_lt _ hD0) ?_
    · by_cases e : j = t + m
      · rw [e]; exact a4
      · rw [a3 j (by omega)]; exact hhigh j (by omega) hj2
    · rw [zh_step (by omega), zh_step (g := zu g t _) (by omega), zu_s, hinv, zh_congr (g := zu g t _) (g' := g) (fun j hj => zu_n (by omega)), a5, ← hlow t (by omega)]
      have e4 := Nat.div_add_mod (zv 1000000000 (fun i => u (t + i)) (m + 1)) (zv 1000000000 v m)
      generalize zv 1000000000 (fun i => u (t + i)) (m + 1) / zv 1000000000 v m = dq at *
      generalize zv 1000000000 (fun i => u (t + i)) (m + 1) % zv 1000000000 v m = rm at *
      generalize zh 1000000000 g N (t + 1) = H at *
      rw [eW] at e4
      generalize zv 1000000000 (fun i => u (t + 1 + i)) m = X at *
      generalize zv 1000000000 v m = D at *
      rw [Nat.add_mul, Nat.mul_add, Nat.mul_assoc, Nat.mul_comm dq D]
      omega
end DF

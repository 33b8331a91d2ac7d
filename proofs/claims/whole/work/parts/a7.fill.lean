/-! the class: write, wipe, read, character -/
theorem Gi.dob {B : zd_B} {h : zd_H} {D : Nat → Nat} {ln : Nat} {ng : Bool} {fd eo dn df : Nat} {ex : Int} (g : Gi B h gD (dS D ln ng fd eo dn df ex)) : zd_Ob B h (zd_b0 B + 32) 3 [.ref (zd_b0 B + 33), .int (nI ln), .int (bI ng), .int (nI fd), .int (nI eo), .int (nI dn), .int (nI df), .long (lI ex)] := g.1
theorem Gi.dar {B : zd_B} {h : zd_H} {D : Nat → Nat} {ln : Nat} {ng : Bool} {fd eo dn df : Nat} {ex : Int} (g : Gi B h gD (dS D ln ng fd eo dn df ex)) : zd_Ai B h (zd_b0 B + 33) 1 1100 (fun i => nI (D i)) := g.2 0 (1, 1100) _ rfl rfl
theorem zv_put {g : Nat → Nat} {n p d : Nat} (hp : p / 9 < n) (hX : zv 1000000000 g n < 10 ^ p) (hd : d < 10) : g (p / 9) + d * 10 ^ (p % 9) < 1000000000 ∧ zv 1000000000 (zu g (p / 9) (g (p / 9) + d * 10 ^ (p % 9))) n = zv 1000000000 g n + d * 10 ^ p := by
  have e1 : (10 : Nat) ^ p = 10 ^ (p % 9) * 1000000000 ^ (p / 9) := by
    rw [p9q, ← Nat.pow_add]
    congr 1
    omega
  have hz := zv_zu (b := 1000000000) (g := g) (n := n) (k := p / 9) (v := g (p / 9) + d * 10 ^ (p % 9)) hp
  rw [Nat.add_mul, Nat.mul_assoc, ← e1] at hz
  refine ⟨?_, by omega⟩
  have hge : g (p / 9) * 1000000000 ^ (p / 9) ≤ zv 1000000000 g n := by
    have := zv_zu (b := 1000000000) (g := g) (n := n) (k := p / 9) (v := 0) hp
    rw [Nat.zero_mul] at this
    omega
  have hlt : g (p / 9) < 10 ^ (p % 9) := by
    rw [e1] at hX
    exact Nat.lt_of_mul_lt_mul_right (Nat.lt_of_le_of_lt hge hX)
  have h9 : (10 : Nat) ^ (p % 9 + 1) ≤ 10 ^ 9 := Nat.pow_le_pow_right (by decide) (by omega)
  rw [Nat.pow_succ] at h9
  have hm : d * 10 ^ (p % 9) ≤ 9 * 10 ^ (p % 9) := Nat.mul_le_mul_right _ (by omega)
  omega
section YA
variable {l : Launch} {B : zd_B} {h : zd_H} {Q : zd_O → zd_H → Prop}
theorem w_fill (hG : zd_G B) (hl : l.stackTraces = false) {D : Nat → Nat} {ln : Nat} {ng : Bool} {fd e dn df : Nat} {ex : Int} {n : Nat} (hln : ln ≤ 1100) (hD : ∀ i, D i < 256) (he : fd + e ≤ ln) (hsc : ∀ k, k < e → sco (atc D ln) fd k = true) (hdn : dn = scn (atc D ln) fd e) (hn : n = (dn + 8) / 9)
    (hq : ∀ h', Fg B h h' (NS B 47) 0 → Nv B h' 47 226 (scv (atc D ln) fd e) → Q (.inl none) h') :
    ∀ (j : Nat) (h1 : zd_H) (g : Nat → Nat) (X : Nat), j ≤ e → Fg B h h1 (NS B 47) 0 → Gi B h1 gD (dS D ln ng fd (fd + e) dn df ex) → Nt B h1 47 226 g n → zv 1000000000 g n = X → X < 10 ^ (dn - scn (atc D ln) fd j) → scv (atc D ln) fd e = scv (atc D ln) fd j * 10 ^ (dn - scn (atc D ln) fd j) + X → scn (atc D ln) fd j ≤ dn →
      zd_W l B m_Dr_fill 17 [some (.ref (zd_b0 B + 32)), some (.ref (zd_b0 B + 47)), some (.int (nI (dn - scn (atc D ln) fd j))), some (.int (iI ((fd : Int) + j - 1)))] [] h1 Q := by
  intro j
  have hdl := (scn_le (atc D ln) fd e).1
  induction j with
  | zero =>
    intro h1 g X hj f1 gi hN hv hX hV hle
    obtain ⟨fs, ob⟩ := hN.1
    refine zd_go (ok_Dr_fill hG hl) [] 60 ?_
    conv => whnf
    refine ⟨_, gi.dob, ?_⟩
    conv => whnf
    refine ⟨fun _ => ?_, fun z => absurd ((iI_lt ⟨by omega, by omega⟩ ⟨by omega, by omega⟩).mpr (by omega : (fd : Int) + (0 : Nat) - 1 < fd)) (by rw [← iI_nI]; exact z)⟩
    conv => whnf
    refine ⟨⟨_, hN.1⟩, ⟨rfl, Nat.le_of_ble_eq_true rfl, Nat.le_of_ble_eq_true rfl⟩, ?_⟩
    refine c_Na_trim hG hl hN (fun n' h' a1 a2 a3 a4 a5 => ?_)
    conv => whnf
    refine ⟨hq _ (f1.tr0 a4) ⟨g, n', a5, a3, ?_⟩, trivial⟩
    rw [a2, hv, hV]
    show X = 0 * _ + X
    omega
  | succ j ih =>
    intro h1 g X hj f1 gi hN hv hX hV hle
    have hb := hD (fd + j)
    have hs := hsc j (by omega)
    have en : scn (atc D ln) fd (j + 1) = scn (atc D ln) fd j + (if atc D ln (fd + j) = 46 then 0 else 1) := rfl
    have ev : scv (atc D ln) fd (j + 1) = if atc D ln (fd + j) = 46 then scv (atc D ln) fd j else scv (atc D ln) fd j * 10 + (atc D ln (fd + j) - 48) := rfl
    rw [atc_in (by omega)] at en ev
    unfold sco at hs
    rw [atc_in (by omega)] at hs
    have hr47 : ∀ q, gS B gD q → ¬ NS B 47 q := fun q hq z => by
      have q1 : zd_b0 B + 32 ≤ q := hq.1
      have q2 : q ≤ zd_b0 B + 32 + 1 := hq.2
      rcases z with z | z <;> omega
    rw [show (fd : Int) + ((j + 1 : Nat) : Int) - 1 = ((fd + j : Nat) : Int) by omega, ← iI_nI]
    refine zd_go (ok_Dr_fill hG hl) [17] 60 ?_
    conv => whnf
    refine ⟨_, gi.dob, ?_⟩
    conv => whnf
    refine ⟨fun z => absurd ((nI_ltI (by omega) (by omega)).mp z) (by omega), fun _ => ?_⟩
    conv => whnf
    refine ⟨_, gi.dob, ?_⟩
    conv => whnf
    refine ⟨1100, _, gi.dar, vp_in_nI (by omega) (by omega), ?_⟩
    rw [nI_clamp (by omega)]
    conv => whnf
    by_cases h46 : D (fd + j) = 46
    · rw [if_pos h46] at en ev
      rw [Nat.add_zero] at en
      refine ⟨fun _ => ?_, fun z => absurd ((nI_eq (b := 46) (by omega) (by decide)).mpr h46) z⟩
      conv => whnf
      refine ⟨?_, trivial⟩
      rw [en] at hX hV hle ⊢
      rw [ev] at hV
      rw [iI_nI (fd + j), iI_m1, show ((fd + j : Nat) : Int) - 1 = (fd : Int) + j - 1 by omega]
      exact ih h1 g X (by omega) f1 gi hN hv hX hV hle
    · rw [if_neg h46] at en ev
      rw [decide_eq_false h46, Bool.false_and, Bool.or_false] at hs
      unfold dgt at hs
      have hdg := of_decide_eq_true hs
      refine ⟨fun z => absurd ((nI_eq (b := 46) (by omega) (by decide)).mp z) h46, fun _ => ?_⟩
      conv => whnf
      refine ⟨_, gi.dob, ?_⟩
      conv => whnf
      refine ⟨1100, _, gi.dar, vp_in_nI (by omega) (by omega), ?_⟩
      rw [nI_clamp (by omega)]
      conv => whnf
      rw [show nI (D (fd + j)) - 48 = nI (D (fd + j) - 48) from nI_sub (b := 48) hdg.1]
      refine ⟨⟨_, hN.1⟩, ⟨rfl, Nat.le_of_ble_eq_true rfl, Nat.le_of_ble_eq_true rfl⟩, ?_⟩
      have hpn : (dn - scn (atc D ln) fd (j + 1)) / 9 < n := by rw [hn]; omega
      have hp := zv_put (d := D (fd + j) - 48) hpn (by rw [hv]; exact hX) (by omega)
      refine c_Na_setDigit hG hl hN hpn (by omega) hp.1 (fun h2 a2 a3 => ?_)
      conv => whnf
      refine ⟨?_, trivial⟩
      rw [nI_1, iI_nI (fd + j), iI_m1, show ((fd + j : Nat) : Int) - 1 = (fd : Int) + j - 1 by omega, show dn - scn (atc D ln) fd (j + 1) + 1 = dn - scn (atc D ln) fd j by omega]
      have e10 : (10 : Nat) ^ (dn - scn (atc D ln) fd j) = 10 ^ (dn - scn (atc D ln) fd (j + 1)) * 10 := by rw [← Nat.pow_succ]; congr 1; omega
      refine ih h2 _ (X + (D (fd + j) - 48) * 10 ^ (dn - scn (atc D ln) fd (j + 1))) (by omega) (f1.tr0 a2) (gi.kept a2 hr47) a3 (by rw [hp.2, hv]) ?_ ?_ (by omega)
      · rw [e10]
        have : (D (fd + j) - 48) * 10 ^ (dn - scn (atc D ln) fd (j + 1)) ≤ 9 * 10 ^ (dn - scn (atc D ln) fd (j + 1)) := Nat.mul_le_mul_right _ (by omega)
        omega
      · rw [hV, ev, e10, Nat.add_mul, Nat.mul_assoc, Nat.mul_comm (10 ^ _) 10]
        omega
theorem dr_fill (hG : zd_G B) (hl : l.stackTraces = false) {D : Nat → Nat} {ln : Nat} {ng : Bool} {fd e dn df : Nat} {ex : Int} (hln : ln ≤ 1100) (hD : ∀ i, D i < 256) (he : fd + e ≤ ln) (hsc : ∀ k, k < e → sco (atc D ln) fd k = true) (hdn : dn = scn (atc D ln) fd e) (gi : Gi B h gD (dS D ln ng fd (fd + e) dn df ex)) (hN : Ns B h 47 226) (hr : Rm h)
    (hq : ∀ h', Fg B h h' (NS B 47) 0 → Nv B h' 47 226 (scv (atc D ln) fd e) → Q (.inl none) h') : zd_M l B m_Dr_fill [.ref (zd_b0 B + 32), .ref (zd_b0 B + 47)] h Q := by
  have hdl := (scn_le (atc D ln) fd e).1
  have hr47 : ∀ q, gS B gD q → ¬ NS B 47 q := fun q hq z => by
    have q1 : zd_b0 B + 32 ≤ q := hq.1
    have q2 : q ≤ zd_b0 B + 32 + 1 := hq.2
    rcases z with z | z <;> omega
  obtain ⟨g0, n0, hN⟩ := hN
  refine zd_go (ok_Dr_fill hG hl) [17] 60 ?_
  conv => whnf
  refine ⟨_, gi.dob, ?_⟩
  conv => whnf
  refine ⟨⟨_, hN.1⟩, ⟨rfl, Nat.le_of_ble_eq_true rfl, Nat.le_of_ble_eq_true rfl⟩, ?_⟩
  refine c_Na_openDigits hG hl hN hr (by omega) (by omega) (fun h1 g1 f1 N1 z1 => ?_)
  have gi1 := gi.kept f1 hr47
  conv => whnf
  refine ⟨_, gi1.dob, ?_⟩
  conv => whnf
  refine ⟨?_, trivial⟩
  rw [show nI (fd + e) - 1 = iI ((fd : Int) + e - 1) by rw [iI_nI]; exact iI_sub _ 1]
  have := w_fill (h := h) (Q := Q) (n := (dn + 8) / 9) hG hl hln hD he hsc hdn rfl hq e h1 g1 0 (Nat.le_refl _) f1 gi1 N1 (zv_zero z1) (pow10_pos _) (by rw [hdn, Nat.sub_self, Nat.pow_zero, Nat.mul_one, Nat.add_zero]) (by omega)
  rw [← hdn, Nat.sub_self] at this
  exact this
end YA

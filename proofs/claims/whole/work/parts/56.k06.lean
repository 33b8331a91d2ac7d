/-! the model: bring -/
section KG
variable {l : Launch} {B : zd_B} {Q : Option Value → zst → Prop} {t ln sz : Nat} {sc : Int} {mo be : Bool} {ts us lz pr fa : Nat} {D K Mn : Nat → Nat} {Mi : Nat → Bool} {Sc : Nat → Int} {rw tp un lf pa : Nat → Nat}
theorem cut_guard {V : Nat} {s w : Int} (h : w < s) : cutV V s (w + 1) / 10 = V / 10 ^ (s - w).toNat ∧ cutV V s (w + 1) % 10 = V / 10 ^ ((s - w).toNat - 1) % 10 ∧ cutL V s (w + 1) = decide (V % 10 ^ ((s - w).toNat - 1) ≠ 0) := by
  obtain ⟨a, b⟩ := cutV_dn (V := V) (s := s) (w := w + 1) (by omega)
  rw [show (s - (w + 1)).toNat = (s - w).toNat - 1 by omega] at a b
  refine ⟨?_, by rw [a], b⟩
  rw [a, Nat.div_div_eq_div_mul, ← Nat.pow_succ]
  congr 2
  omega
theorem cut_guard_up {V : Nat} {s w : Int} (h : s ≤ w) : cutV V s (w + 1) / 10 = V * 10 ^ (w - s).toNat ∧ cutV V s (w + 1) % 10 = 0 ∧ cutL V s (w + 1) = false := by
  obtain ⟨a, b⟩ := cutV_up (V := V) (s := s) (w := w + 1) (by omega)
  rw [show (w + 1 - s).toNat = (w - s).toNat + 1 by omega, Nat.pow_succ, ← Nat.mul_assoc] at a
  refine ⟨by rw [a]; omega, by rw [a]; omega, b⟩
theorem k_bring (hG : zd_G B) (hl : l.stackTraces = false) {R : Nat → zr} (hR : ROk R) (hM : MR R K Mn Mi Sc) {to md : Nat} {wish : Int} (hr : to < 10) (hm : md < 8) (hs : sz ≤ 3300) (hd : ∀ i, rw i < 10) (hsc : -1000000 < sc ∧ sc < 1000000) (hwi : -1000000 < wish ∧ wish < 1000000) (hmo : mo = false)
    (hq : Res Q R to t ln pr fa D pa K Mn Mi Sc be (sp_ts (tv rw sz) sc wish md be)) : zm_M l B gM m_Mo_bring [.ref 53, .long (lI wish), .int (nI md), .int (nI to)] (mS t ln sz sc mo be ts us lz pr fa D K Mn Mi Sc rw tp un lf pa) Q := by
  have hdz : dg (tv rw sz) ≤ 3300 := by
    by_cases e : sz = 0
    · subst e
      show dg 0 ≤ 3300
      rw [dg_0]; decide
    · exact Nat.le_trans (dgle (by omega) (tv_lt (fun i _ => hd i))) hs
  have hdp := dg_pos (tv rw sz)
  subst hmo
  refine zm_go (okm_Mo_bring hG hl) [103, 116] 200 ?_
  conv => whnf
  refine k_trim hG hl (by omega) hd (fun g a1 a2 => ?_)
  have t0 := top0 a1 a2
  generalize hV : tv rw sz = V at *
  have sto : ∀ (g' : Nat → Nat) (n : Nat) (s' : Int) (m2 b2 : Bool) (x y : Option Value), n ≤ 4400 → (∀ i, g' i < 10) → (-4000000000000 < s' ∧ s' < 4000000000000) → Res Q R to t ln pr fa D pa K Mn Mi Sc b2 (some (tv g' n, s')) → zm_W l B gM m_Mo_bring 116 [some (.ref 53), some (.long (lI wish)), none, some (.int (nI md)), some (.int (nI to)), x, y] [] (mS t ln (n) (s') (m2) (b2) ts us lz pr fa D K Mn Mi Sc (g') tp un lf pa) Q := by
    intro g' n s' m2 b2 x y q1 q2 q3 q4
    refine zm_go (okm_Mo_bring hG hl) [] 200 ?_
    conv => whnf
    refine k_storeA hG hl hR hM hr q1 q2 q3 (q4.imp (fun m hm => ?_))
    conv => whnf
    exact ⟨hm, trivial⟩
  have h0 := a1 0
  conv => whnf
  refine ⟨0, rfl, by omega, ?_⟩
  conv => whnf
  by_cases ez : V = 0
  · refine ⟨fun z => absurd ((nI_z (by omega)).mpr (t0.mpr ez)) z, fun _ => ?_⟩
    conv => whnf
    refine ⟨fun z => absurd rfl z, fun _ => ?_⟩
    conv => whnf
    refine ⟨?_, trivial⟩
    try dsimp only
    refine sto g _ wish _ _ _ _ (by omega) a1 (by omega) ?_
    rw [a2]
    subst ez
    have e0 : sp_ts 0 sc wish md be = some (0, wish) := by
      unfold sp_ts
      have c1 : cutV 0 sc (wish + 1) = 0 := by unfold cutV; simp
      have c2 : cutL 0 sc (wish + 1) = false := by unfold cutL; simp
      rw [c1, c2]
      rfl
    rw [e0] at hq
    refine hq.sg (fun V s e => ?_)
    rw [fin_some] at e
    split at e
    · cases e; simp
    · cases e
  · have hbe : (be && decide (V ≠ 0)) = be := by simp [ez]
    rw [hbe]
    refine ⟨fun _ => ?_, fun z => absurd (t0.mp ((nI_z (by omega)).mp z)) ez⟩
    conv => whnf
    refine ⟨fun z => ?_, fun z => ?_⟩
    · have z' : wish < sc := (lI_lt ⟨by omega, by omega⟩ ⟨by omega, by omega⟩).mp ((cmp_lt _ _).mp z)
      obtain ⟨k1, k2, k3⟩ := cut_guard (V := V) z'
      unfold sp_ts at hq
      rw [k1, k2, k3] at hq
      conv => whnf
      rw [iI_nI (dg V), iI_l ⟨by omega, by omega⟩, lI_sub, lI_sub]
      have cutp : ∀ k : Int, -1 ≤ k → k < dg V → tv g k.toNat = V / 10 ^ (sc - wish).toNat → gdd g k = V / 10 ^ ((sc - wish).toNat - 1) % 10 → bdd g (dg V) false k = decide (V % 10 ^ ((sc - wish).toNat - 1) ≠ 0) → zm_W l B gM m_Mo_bring 103 [some (.ref 53), some (.long (lI wish)), none, some (.int (nI md)), some (.int (nI to)), some (.long (lI ((dg V : Int) - (sc - wish)))), none] [.int (iI k), .ref 53] (mS t ln (dg V) sc (false) be ts us lz pr fa D K Mn Mi Sc (g) tp un lf pa) Q := by
        intro k q1 q2 q3 q4 q5
        refine zm_go (okm_Mo_bring hG hl) [116] 200 ?_
        conv => whnf
        refine k_cut hG hl (by omega) a1 (by omega) hm q1 q2 (fun e => ?_) (fun q n g2 e c1 c2 c3 => ?_)
        · rw [q3, q4, q5] at e
          rw [e] at hq
          conv => whnf
          refine ⟨fun z => absurd rfl z, fun _ => ?_⟩
          conv => whnf
          exact ⟨hq.2 rfl _ _ _ _ _ _ _ _ _ _ _ a1, trivial⟩
        · rw [q3, q4, q5] at e
          rw [e] at hq
          conv => whnf
          refine ⟨fun _ => ?_, fun z => absurd z (by decide)⟩
          conv => whnf
          refine ⟨?_, trivial⟩
          try dsimp only
          refine sto g2 n wish _ _ _ _ (by omega) c1 (by omega) ?_
          rw [c2]
          exact hq
      refine ⟨fun z => ?_, fun z => ?_⟩
      · have z2 : -1 ≤ (dg V : Int) - (sc - wish) := (lI_le (a := -1) ⟨by decide, by decide⟩ ⟨by omega, by omega⟩).mp ((lg_cmp_ge _ _).mp z)
        conv => whnf
        refine ⟨?_, trivial⟩
        try dsimp only
        rw [lI_i]
        refine cutp _ z2 (by omega) ?_ ?_ ?_
        · by_cases q : (dg V : Int) - (sc - wish) = -1
          · rw [q]
            show 0 = _
            rw [div_pow_z (by omega)]
          · rw [tv_cutpre a1 (n := dg V) (by omega), a2]
            congr 2
            omega
        · by_cases q : (dg V : Int) - (sc - wish) = -1
          · rw [q]
            show 0 = _
            rw [div_pow_z (by omega)]
          · unfold gdd
            rw [if_pos (by omega)]
            have := tv_dig (g := g) (n := dg V) (k := ((dg V : Int) - (sc - wish)).toNat) (by omega) (fun i _ => a1 i)
            rw [a2] at this
            rw [← this]
            congr 3
            omega
        · unfold bdd
          rw [a2, show dg V - ((dg V : Int) - (sc - wish) + 1).toNat = (sc - wish).toNat - 1 by omega, Bool.false_or]
      · have z2 : ¬ -1 ≤ (dg V : Int) - (sc - wish) := fun q => z ((lg_cmp_ge _ _).mpr ((lI_le (a := -1) ⟨by decide, by decide⟩ ⟨by omega, by omega⟩).mpr q))
        conv => whnf
        refine ⟨?_, trivial⟩
        try dsimp only
        refine cutp (-1) (by decide) (by omega) ?_ ?_ ?_
        · show 0 = _
          rw [div_pow_z (by omega)]
        · show 0 = _
          rw [div_pow_z (by omega)]
        · unfold bdd
          rw [a2, Bool.false_or]
          show decide (V % 10 ^ (dg V - 0) ≠ 0) = _
          rw [Nat.mod_eq_of_lt (by rw [Nat.sub_zero]; exact dg_lt V), Nat.mod_eq_of_lt (Nat.lt_of_lt_of_le (dg_lt V) (Nat.pow_le_pow_right (by decide) (by omega)))]
    · have z' : ¬ wish < sc := fun q => z ((cmp_lt _ _).mpr ((lI_lt ⟨by omega, by omega⟩ ⟨by omega, by omega⟩).mpr q))
      obtain ⟨k1, k2, k3⟩ := cut_guard_up (V := V) (s := sc) (w := wish) (by omega)
      have e0 : sp_ts V sc wish md be = some (V * 10 ^ (wish - sc).toNat, wish) := by
        unfold sp_ts
        rw [k1, k2, k3]
        rfl
      rw [e0] at hq
      conv => whnf
      rw [lI_sub]
      refine ⟨fun z => ?_, fun z => ?_⟩
      · have z2 : wish - sc ≤ 1000 := (lI_le (b := 1000) ⟨by omega, by omega⟩ ⟨by decide, by decide⟩).mp ((lg_cmp_le _ _).mp z)
        conv => whnf
        rw [lI_sub, show wish - sc = (((wish - sc).toNat : Nat) : Int) by omega]
        refine k_lengthen hG hl (by omega) a1 (by omega) (fun g2 b1 b2 => ?_)
        conv => whnf
        refine ⟨?_, trivial⟩
        try dsimp only
        refine sto g2 _ _ _ _ _ _ (by omega) b1 (by omega) ?_
        rw [b2, a2, show sc + (((wish - sc).toNat : Nat) : Int) = wish by omega]
        exact hq
      · have z2 : ¬ wish - sc ≤ 1000 := fun q => z ((lg_cmp_le _ _).mpr ((lI_le (b := 1000) ⟨by omega, by omega⟩ ⟨by decide, by decide⟩).mpr q))
        conv => whnf
        refine ⟨hq.2 ?_ _ _ _ _ _ _ _ _ _ _ _ a1, trivial⟩
        rw [fin_some, if_neg]
        intro q
        have := dg_mul_pow ez (wish - sc).toNat
        omega
end KG

/-! the model: grows, cut -/
section KE
variable {l : Launch} {B : zd_B} {Q : Option Value → zst → Prop} {t ln sz : Nat} {sc : Int} {mo be : Bool} {ts us lz pr fa : Nat} {D K Mn : Nat → Nat} {Mi : Nat → Bool} {Sc : Nat → Int} {rw tp un lf pa : Nat → Nat}
/-- the digit behind what is kept, and whether there is more behind it -/
def gdd (g : Nat → Nat) (k : Int) : Nat := if 0 ≤ k then g k.toNat else 0
def bdd (g : Nat → Nat) (n : Nat) (mo : Bool) (k : Int) : Bool := mo || decide (tv g n % 10 ^ (n - (k + 1).toNat) ≠ 0)
theorem tv_mod10 {g : Nat → Nat} {n : Nat} (hd : ∀ i, g i < 10) (hn : 0 < n) : tv g n % 10 = g (n - 1) := by
  have := tv_dig (g := g) (n := n) (k := n - 1) (by omega) (fun i _ => hd i)
  rw [show n - 1 - (n - 1) = 0 by omega, Nat.pow_zero, Nat.div_one] at this
  exact this
theorem k_grows (hG : zd_G B) (hl : l.stackTraces = false) (hs : sz ≤ 4400) (hd : ∀ i, rw i < 10) {k : Int} {md : Nat} (hm : md < 8) (h1 : -1 ≤ k) (h2 : k < sz)
    (hq : Q (some (.int (nI (gro md be (gdd rw k) (bdd rw sz mo k) (tv rw k.toNat))))) (mS t ln sz sc mo be ts us lz pr fa D K Mn Mi Sc rw tp un lf pa)) : zm_M l B gM m_Mo_grows [.ref 53, .int (iI k), .int (nI md)] (mS t ln sz sc mo be ts us lz pr fa D K Mn Mi Sc rw tp un lf pa) Q := by
  have r0 : iR 0 := ⟨by decide, by decide⟩
  have rk : iR k := ⟨by omega, by omega⟩
  have hg : gdd rw k < 10 := by unfold gdd; split; exact hd _; decide
  -- the last digit that is kept
  have last : zm_W l B gM m_Mo_grows 68 [some (.ref 53), some (.int (iI k)), some (.int (nI md)), some (.int (nI (gdd rw k))), some (.int (bI (bdd rw sz mo k))), some (.int (bI (decide (gdd rw k = 0 ∧ bdd rw sz mo k = false)))), none] [] (mS t ln sz sc mo be ts us lz pr fa D K Mn Mi Sc rw tp un lf pa) Q := by
    refine zm_go (okm_Mo_grows hG hl) [94] 200 ?_
    conv => whnf
    refine ⟨fun z => ?_, fun z => ?_⟩
    · have z' : k ≤ 0 := (iI_le rk r0).mp z
      conv => whnf
      refine ⟨?_, trivial⟩
      try dsimp only
      refine w_grows (la := 0) hG hl hm hg (by decide) ?_ hq
      rw [show k.toNat = 0 by omega]
      rfl
    · have z' : ¬ k ≤ 0 := fun q => z ((iI_le rk r0).mpr q)
      conv => whnf
      refine ⟨fun z => ?_, fun z => ?_⟩
      · have z2 : (sz : Int) < k := by
          rw [iI_nI] at z
          exact (iI_lt ⟨by omega, by omega⟩ rk).mp z
        omega
      · conv => whnf
        refine ⟨(k.toNat - 1), by rw [iI_nI]; show iI k - iI 1 = _; rw [iI_sub]; congr 1; omega, by omega, ?_⟩
        conv => whnf
        refine ⟨?_, trivial⟩
        try dsimp only
        refine w_grows (la := rw (k.toNat - 1)) hG hl hm hg (hd _) ?_ hq
        rw [tv_mod10 hd (by omega)]
  have mid : zm_W l B gM m_Mo_grows 52 [some (.ref 53), some (.int (iI k)), some (.int (nI md)), some (.int (nI (gdd rw k))), some (.int (bI (bdd rw sz mo k))), none, none] [] (mS t ln sz sc mo be ts us lz pr fa D K Mn Mi Sc rw tp un lf pa) Q := by
    refine zm_go (okm_Mo_grows hG hl) [68] 200 ?_
    conv => whnf
    refine ⟨fun z => ?_, fun z => ?_⟩
    · have z' : ¬ gdd rw k = 0 := fun q => z ((nI_z (by omega)).mpr q)
      rw [decide_eq_false (fun q => z' q.1)] at last
      conv => whnf
      refine ⟨?_, trivial⟩
      try dsimp only
      exact last
    · have z' := (nI_z (by omega)).mp z
      conv => whnf
      cases hb : bdd rw sz mo k
      · rw [hb, decide_eq_true ⟨z', rfl⟩] at last
        refine ⟨fun z => absurd rfl z, fun _ => ?_⟩
        conv => whnf
        refine ⟨?_, trivial⟩
        try dsimp only
        exact last
      · rw [hb, decide_eq_false (fun q => absurd q.2 (by decide))] at last
        refine ⟨fun _ => ?_, fun z => absurd z (by decide)⟩
        conv => whnf
        refine ⟨?_, trivial⟩
        try dsimp only
        exact last
  have more : zm_W l B gM m_Mo_grows 23 [some (.ref 53), some (.int (iI k)), some (.int (nI md)), some (.int (nI (gdd rw k))), none, none, none] [] (mS t ln sz sc mo be ts us lz pr fa D K Mn Mi Sc rw tp un lf pa) Q := by
    refine zm_go (okm_Mo_grows hG hl) [52] 200 ?_
    conv => whnf
    rw [show iI k + 1 = iI (k + 1) from iI_add k 1]
    refine k_isMore hG hl hs hd (by omega) (by omega) ?_
    conv => whnf
    have hb : bdd rw sz mo k = (mo || decide (tv rw sz % 10 ^ (sz - (k + 1).toNat) ≠ 0)) := rfl
    rw [← hb]
    cases hbb : bdd rw sz mo k
    · rw [hbb] at mid
      refine ⟨fun z => absurd rfl z, fun _ => ?_⟩
      conv => whnf
      refine ⟨fun z => ?_, fun z => ?_⟩
      · conv => whnf
        refine ⟨?_, trivial⟩
        try dsimp only
        exact mid
      · have z' : ¬ 0 ≤ k := fun q => z ((iI_le r0 rk).mpr q)
        conv => whnf
        refine k_isMore (f := 0) hG hl hs hd (by decide) (by omega) ?_
        have e0 : (mo || decide (tv rw sz % 10 ^ (sz - (0 : Int).toNat) ≠ 0)) = false := by
          rw [← hbb, hb, show k + 1 = 0 by omega]
        rw [e0]
        conv => whnf
        refine ⟨fun _ => ?_, fun z => absurd rfl z⟩
        conv => whnf
        refine ⟨?_, trivial⟩
        try dsimp only
        exact mid
    · rw [hbb] at mid
      refine ⟨fun _ => ?_, fun z => absurd z (by decide)⟩
      conv => whnf
      refine ⟨?_, trivial⟩
      try dsimp only
      exact mid
  refine zm_go (okm_Mo_grows hG hl) [23] 200 ?_
  conv => whnf
  refine ⟨fun z => ?_, fun z => ?_⟩
  · have z' : k < 0 := (iI_lt rk r0).mp z
    rw [show gdd rw k = 0 from if_neg (by omega)] at more
    conv => whnf
    refine ⟨?_, trivial⟩
    try dsimp only
    exact more
  · have z' : ¬ k < 0 := fun q => z ((iI_lt rk r0).mpr q)
    conv => whnf
    refine ⟨fun z => ?_, fun z => ?_⟩
    · have z2 : (sz : Int) ≤ k := by
        rw [iI_nI] at z
        exact (iI_le ⟨by omega, by omega⟩ rk).mp z
      omega
    · conv => whnf
      refine ⟨k.toNat, by rw [iI_nI]; congr 1; omega, by omega, ?_⟩
      conv => whnf
      refine ⟨?_, trivial⟩
      try dsimp only
      rw [show gdd rw k = rw k.toNat from if_pos (by omega)] at more
      exact more
/-- one more: the nines become zeros; when it began, g0 stood there -/
theorem w_cut1 (hG : zd_G B) (hl : l.stackTraces = false) {n : Nat} (hn : n ≤ 4399) {kp mdd : Int32} {g0 : Nat → Nat}
    (h0 : ∀ g' a, (∀ i, g' i < 10) → tv g' n = tv g0 n + 1 → zm_W l B gM m_Mo_cut 130 [some (.ref 53), some (.int kp), some (.int mdd), some (.int 0), some (.int a), none] [] (mS t ln (n) sc mo be ts us lz pr fa D K Mn Mi Sc (g') tp un lf pa) Q)
    (h1 : ∀ g' a, (∀ i, g' i < 10) → (∀ i, i < n → g' i = 0) → tv g0 n + 1 = 10 ^ n → zm_W l B gM m_Mo_cut 130 [some (.ref 53), some (.int kp), some (.int mdd), some (.int 1), some (.int a), none] [] (mS t ln (n) sc mo be ts us lz pr fa D K Mn Mi Sc (g') tp un lf pa) Q) :
    ∀ (i : Nat) (g : Nat → Nat), i ≤ n → (∀ j, g j < 10) → (∀ j, i ≤ j → j < n → g j = 0) → tv g n + 10 ^ (n - i) = tv g0 n + 1 → zm_W l B gM m_Mo_cut 64 [some (.ref 53), some (.int kp), some (.int mdd), some (.int 1), some (.int (iI ((i : Int) - 1))), none] [] (mS t ln (n) sc mo be ts us lz pr fa D K Mn Mi Sc (g) tp un lf pa) Q := by
  have r0 : iR 0 := ⟨by decide, by decide⟩
  intro i
  induction i with
  | zero =>
    intro g hi hd hz hv
    refine zm_go (okm_Mo_cut hG hl) [130] 200 ?_
    conv => whnf
    refine ⟨fun z => absurd rfl z, fun _ => ?_⟩
    conv => whnf
    refine ⟨fun _ => ?_, fun z => absurd (by decide) z⟩
    refine ⟨?_, trivial⟩
    try dsimp only
    refine h1 g _ hd (fun j hj => hz j (by omega) hj) ?_
    rw [tv_z.mpr (fun j hj => hz j (by omega) hj), Nat.sub_zero] at hv
    omega
  | succ i ih =>
    intro g hi hd hz hv
    have ei : iI (((i + 1 : Nat) : Int) - 1) = nI i := by rw [iI_nI]; congr 1; omega
    rw [ei]
    have hgi := hd i
    refine zm_go (okm_Mo_cut hG hl) [64, 130] 200 ?_
    conv => whnf
    refine ⟨fun z => absurd rfl z, fun _ => ?_⟩
    conv => whnf
    refine ⟨fun z => absurd z (nI_pos (by omega)), fun _ => ?_⟩
    conv => whnf
    refine ⟨i, rfl, by omega, ?_⟩
    conv => whnf
    by_cases e : g i = 9
    · refine ⟨fun z => absurd ((nI_eq (b := 9) (by omega) (by decide)).mpr e) z, fun _ => ?_⟩
      conv => whnf
      refine ⟨i, rfl, by omega, ?_⟩
      conv => whnf
      refine ⟨fun z => absurd ((nI_eq (b := 9) (by omega) (by decide)).mpr e) z, fun _ => ?_⟩
      conv => whnf
      refine ⟨i, rfl, by omega, ?_⟩
      conv => whnf
      refine ⟨?_, trivial⟩
      try dsimp only
      rw [show (0 : Int32) = nI 0 from rfl]
      rw [upd_nI]
      have hzu := tv_zu (g := g) (n := n) (k := i) (v := 0) (by omega)
      rw [e] at hzu
      have hp : 10 ^ (n - i) = 10 ^ (n - 1 - i) * 10 := by rw [← Nat.pow_succ]; congr 1; omega
      have := ih (zu g i 0) (by omega) (zu_lt hd (by decide)) (fun j h1 h2 => by
        by_cases q : j = i
        · rw [q, zu_s]
        · rw [zu_n q]; exact hz j (by omega) h2) (by rw [hp]; rw [show n - (i + 1) = n - 1 - i by omega] at hv; omega)
      rw [iI_nI, iI_m1]
      exact this
    · refine ⟨fun _ => ?_, fun z => absurd ((nI_eq (b := 9) (by omega) (by decide)).mp z) e⟩
      conv => whnf
      refine ⟨i, rfl, by omega, ?_⟩
      conv => whnf
      refine ⟨fun _ => ?_, fun z => absurd ((nI_eq (b := 9) (by omega) (by decide)).mp z) e⟩
      conv => whnf
      refine ⟨i, rfl, by omega, ?_⟩
      conv => whnf
      refine ⟨i, rfl, by omega, ?_⟩
      conv => whnf
      refine ⟨?_, trivial⟩
      try dsimp only
      rw [nI_1]
      rw [upd_nI]
      refine zm_go (okm_Mo_cut hG hl) [130] 200 ?_
      conv => whnf
      refine ⟨fun _ => ?_, fun z => absurd z (by decide)⟩
      refine ⟨?_, trivial⟩
      try dsimp only
      refine h0 _ _ (zu_lt hd (by omega)) ?_
      have hzu := tv_zu (g := g) (n := n) (k := i) (v := g i + 1) (by omega)
      rw [Nat.add_mul, Nat.one_mul] at hzu
      rw [show n - (i + 1) = n - 1 - i by omega] at hv
      omega
/-- moved by one -/
theorem w_cut2 (hG : zd_G B) (hl : l.stackTraces = false) {n : Nat} (hn : n ≤ 4399) {kp mdd a : Int32}
    (hq : ∀ g', (∀ i, g' i < 10) → tv g' (n + 1) = 10 ^ n → Q (some (.int (bI true))) (mS t ln (n + 1) sc mo be ts us lz pr fa D K Mn Mi Sc (g') tp un lf pa)) :
    ∀ (i : Nat) (g : Nat → Nat), i ≤ n → (∀ j, g j < 10) → (∀ j, i < j → j ≤ n → g j = 0) → (∀ j, j < i → g j = 0) → zm_W l B gM m_Mo_cut 141 [some (.ref 53), some (.int kp), some (.int mdd), some (.int 1), some (.int a), some (.int (nI i))] [] (mS t ln (n) sc mo be ts us lz pr fa D K Mn Mi Sc (g) tp un lf pa) Q := by
  intro i
  induction i with
  | zero =>
    intro g hi hd h3 _
    refine zm_go (okm_Mo_cut hG hl) [] 200 ?_
    conv => whnf
    refine ⟨fun _ => ?_, fun z => absurd (by decide) z⟩
    conv => whnf
    refine ⟨0, rfl, by omega, ?_⟩
    conv => whnf
    rw [nI_1, show (1 : Int32) = nI 1 from rfl]
    rw [upd_nI]
    refine ⟨⟨true, rfl, hq _ (zu_lt hd (by decide)) ?_⟩, trivial⟩
    have e := tv_split2 (g := zu g 0 1) (m := 1) (n := n + 1) (by omega)
    have e2 : tv (fun i => zu g 0 1 (1 + i)) (n + 1 - 1) = 0 := tv_z.mpr (fun j hj => by rw [zu_n (by omega)]; exact h3 (1 + j) (by omega) (by omega))
    have e3 : tv (zu g 0 1) 1 = 1 := by show 0 * 10 + zu g 0 1 0 = 1; rw [zu_s]
    rw [e, e2, e3, Nat.add_sub_cancel]
    omega
  | succ i ih =>
    intro g hi hd h3 h4
    refine zm_go (okm_Mo_cut hG hl) [141] 200 ?_
    conv => whnf
    refine ⟨fun z => absurd z (nI_nle (by omega) (by omega)), fun _ => ?_⟩
    conv => whnf
    refine ⟨i, nI_pred i, by omega, ?_⟩
    conv => whnf
    refine ⟨(i + 1), rfl, by omega, ?_⟩
    conv => whnf
    refine ⟨?_, trivial⟩
    try dsimp only
    rw [h4 i (by omega), nI_m1 (by omega), Nat.add_sub_cancel]
    rw [upd_nI]
    have hz : ∀ j, i < j → j ≤ n → zu g (i + 1) 0 j = 0 := fun j q1 q2 => by
      by_cases q : j = i + 1
      · rw [q, zu_s]
      · rw [zu_n q]; exact h3 j (by omega) q2
    have hz2 : ∀ j, j < i → zu g (i + 1) 0 j = 0 := fun j q1 => by rw [zu_n (by omega)]; exact h4 j (by omega)
    exact ih _ (by omega) (zu_lt hd (by decide)) hz hz2
theorem k_cut (hG : zd_G B) (hl : l.stackTraces = false) (hs : sz ≤ 4399) (hd : ∀ i, rw i < 10) (hsc : -4000000000000 < sc ∧ sc < 4000000000000) {k : Int} {md : Nat} (hm : md < 8) (h1 : -1 ≤ k) (h2 : k < sz)
    (hn : rnd md be (tv rw k.toNat) (gdd rw k) (bdd rw sz mo k) = none → Q (some (.int (bI false))) (mS (fa) ln sz sc mo be ts us lz pr fa D K Mn Mi Sc rw tp un lf pa))
    (hq : ∀ q n g', rnd md be (tv rw k.toNat) (gdd rw k) (bdd rw sz mo k) = some q → (∀ i, g' i < 10) → tv g' n = q → (n = k.toNat ∨ (n = k.toNat + 1 ∧ q = 10 ^ k.toNat)) → Q (some (.int (bI true))) (mS t ln (n) (sc - (sz - k)) (false) be ts us lz pr fa D K Mn Mi Sc (g') tp un lf pa)) : zm_M l B gM m_Mo_cut [.ref 53, .int (iI k), .int (nI md)] (mS t ln sz sc mo be ts us lz pr fa D K Mn Mi Sc rw tp un lf pa) Q := by
  have r0 : iR 0 := ⟨by decide, by decide⟩
  have rk : iR k := ⟨by omega, by omega⟩
  rw [rnd_gro] at hn
  simp only [rnd_gro] at hq
  have hb : gro md be (gdd rw k) (bdd rw sz mo k) (tv rw k.toNat) ≤ 2 := by
    unfold gro
    split
    · omega
    · split
      · omega
      · cases outw md be (gdd rw k) (bdd rw sz mo k) (tv rw k.toNat) <;> decide
  refine zm_go (okm_Mo_cut hG hl) [64] 200 ?_
  conv => whnf
  refine k_grows hG hl (by omega) hd hm h1 h2 ?_
  generalize gro md be (gdd rw k) (bdd rw sz mo k) (tv rw k.toNat) = G at hn hq hb ⊢
  have body : ∀ (G : Nat), G ≤ 1 → (∀ q n g', some (tv rw k.toNat + G) = some q → (∀ i, g' i < 10) → tv g' n = q → (n = k.toNat ∨ (n = k.toNat + 1 ∧ q = 10 ^ k.toNat)) → Q (some (.int (bI true))) (mS t ln (n) (sc - (sz - k)) (false) be ts us lz pr fa D K Mn Mi Sc (g') tp un lf pa)) → zm_W l B gM m_Mo_cut 64 [some (.ref 53), some (.int (iI k)), some (.int (nI md)), some (.int (nI G)), some (.int (iI ((k.toNat : Int) - 1))), none] [] (mS t ln (k.toNat) (sc - (sz - k)) (false) be ts us lz pr fa D K Mn Mi Sc rw tp un lf pa) Q := by
    intro G hG1 hq
    have hG2 : G = 0 ∨ G = 1 := by omega
    have done : ∀ g' a, (∀ i, g' i < 10) → tv g' k.toNat = tv rw k.toNat + G → zm_W l B gM m_Mo_cut 130 [some (.ref 53), some (.int (iI k)), some (.int (nI md)), some (.int 0), some (.int a), none] [] (mS t ln (k.toNat) (sc - (sz - k)) (false) be ts us lz pr fa D K Mn Mi Sc (g') tp un lf pa) Q := by
      intro g' a q1 q2
      refine zm_go (okm_Mo_cut hG hl) [] 200 ?_
      conv => whnf
      refine ⟨fun _ => ?_, fun z => absurd z (by decide)⟩
      conv => whnf
      exact ⟨⟨true, rfl, hq _ _ g' rfl q1 q2 (Or.inl rfl)⟩, trivial⟩
    rcases hG2 with e | e
    · subst e
      refine zm_go (okm_Mo_cut hG hl) [130] 200 ?_
      conv => whnf
      refine ⟨fun _ => ?_, fun z => absurd z (by decide)⟩
      refine ⟨?_, trivial⟩
      try dsimp only
      exact done rw _ hd rfl
    · subst e
      refine w_cut1 (g0 := rw) hG hl (by omega) done (fun g' a q1 q2 q3 => ?_) k.toNat rw (Nat.le_refl _) hd (fun j q1 q2 => by omega) (by rw [Nat.sub_self, Nat.pow_zero])
      refine zm_go (okm_Mo_cut hG hl) [141] 200 ?_
      conv => whnf
      refine ⟨fun z => absurd rfl z, fun _ => ?_⟩
      conv => whnf
      refine ⟨?_, trivial⟩
      try dsimp only
      refine w_cut2 hG hl (by omega) (fun g2 u1 u2 => hq _ _ g2 rfl u1 (by rw [u2, q3]) (Or.inr ⟨rfl, q3⟩)) k.toNat g' (Nat.le_refl _) q1 (fun j h1 h2 => by omega) q2
  conv => whnf
  by_cases e : G = 2
  · subst e
    refine ⟨fun z => absurd rfl z, fun _ => ?_⟩
    conv => whnf
    exact ⟨⟨false, rfl, hn rfl⟩, trivial⟩
  · have hn2 := body G (by omega) (by
      intro q n g' u1 u2 u3 u4
      exact hq q n g' (by rw [if_neg e]; exact u1) u2 u3 u4)
    refine ⟨fun _ => ?_, fun z => absurd ((nI_eq (b := 2) (by omega) (by decide)).mp z) e⟩
    conv => whnf
    rw [iI_nI sz, iI_sub, iI_l ⟨by omega, by omega⟩, lI_sub]
    refine ⟨fun z => ?_, fun z => ?_⟩
    · have z' : 0 ≤ k := (iI_le r0 rk).mp z
      conv => whnf
      refine ⟨false, rfl, ?_⟩
      conv => whnf
      refine ⟨?_, trivial⟩
      try dsimp only
      rw [show iI k - 1 = iI ((k.toNat : Int) - 1) by show iI k - iI 1 = _; rw [iI_sub]; congr 1; omega]
      have e1 : nI k.toNat = iI k := by rw [iI_nI]; congr 1; omega
      rw [← e1] at hn2 ⊢
      exact hn2
    · have z' : ¬ 0 ≤ k := fun q => z ((iI_le r0 rk).mpr q)
      conv => whnf
      refine ⟨false, rfl, ?_⟩
      conv => whnf
      refine ⟨?_, trivial⟩
      try dsimp only
      rw [show k.toNat = 0 by omega] at hn2
      exact hn2
end KE

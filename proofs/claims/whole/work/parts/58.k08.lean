/-! the model: sizes compared -/
theorem td_pad {V d n k : Nat} (hn : d ≤ n) (hk : k < n) : td (V * 10 ^ (n - d)) n k = if k < d then td V d k else 0 := by
  unfold td
  split
  · rename_i h
    rw [show n - 1 - k = (n - d) + (d - 1 - k) by omega, Nat.pow_add, Nat.mul_comm V, Nat.mul_div_mul_left _ _ (pow10_pos _)]
  · rename_i h
    rw [show n - d = (n - 1 - k) + ((k - d) + 1) by omega, Nat.pow_add, Nat.mul_left_comm, Nat.mul_div_cancel_left _ (pow10_pos _), Nat.pow_succ, ← Nat.mul_assoc, Nat.mul_mod_left]
theorem div_lt_imp {a b m : Nat} (h : a / m < b / m) : a < b := by
  rcases Nat.lt_or_ge a b with q | q
  · exact q
  · have := Nat.div_le_div_right (c := m) q
    omega
/-- the first digit that differs decides -/
theorem first_diff {V W n i : Nat} (hV : V < 10 ^ n) (hW : W < 10 ^ n) (hi : i < n) (he : ∀ j, j < i → td V n j = td W n j) (hl : td V n i < td W n i) : V < W := by
  have a := tv_td_pre hV (k := i + 1) (by omega)
  have b := tv_td_pre hW (k := i + 1) (by omega)
  have c : tv (td V n) (i + 1) < tv (td W n) (i + 1) := by
    show tv (td V n) i * 10 + td V n i < tv (td W n) i * 10 + td W n i
    rw [tv_congr he]
    omega
  rw [a, b] at c
  exact div_lt_imp c
theorem all_same {V W n : Nat} (hV : V < 10 ^ n) (hW : W < 10 ^ n) (he : ∀ j, j < n → td V n j = td W n j) : V = W := by
  rw [← tv_td hV, ← tv_td hW, tv_congr he]
/-- a number at a scale that is no smaller -/
def upS (x : zr) (s : Int) : Nat := x.2.1 * 10 ^ (s - x.2.2).toNat
theorem lead_lt {x y : zr} {s : Int} (hx : x.2.2 ≤ s) (hy : y.2.2 ≤ s) (h0 : y.2.1 ≠ 0) (h : (dg x.2.1 : Int) - x.2.2 < dg y.2.1 - y.2.2) : upS x s < upS y s := by
  have a := dg_lt x.2.1
  have b := dg_ge y.2.1 (by omega)
  have c := dg_pos y.2.1
  unfold upS
  have h1 : x.2.1 * 10 ^ (s - x.2.2).toNat < 10 ^ (dg x.2.1 + (s - x.2.2).toNat) := by
    rw [Nat.pow_add]
    exact (Nat.mul_lt_mul_right (pow10_pos _)).mpr a
  have h2 : 10 ^ (dg y.2.1 - 1 + (s - y.2.2).toNat) ≤ y.2.1 * 10 ^ (s - y.2.2).toNat := by
    rw [Nat.pow_add]
    exact Nat.mul_le_mul_right _ b
  have h3 : (10 : Nat) ^ (dg x.2.1 + (s - x.2.2).toNat) ≤ 10 ^ (dg y.2.1 - 1 + (s - y.2.2).toNat) := Nat.pow_le_pow_right (by decide) (by omega)
  omega
section KI
variable {l : Launch} {B : zd_B} {Q : Option Value → zst → Prop} {t ln sz : Nat} {sc : Int} {mo be : Bool} {ts us lz pr fa : Nat} {D K Mn : Nat → Nat} {Mi : Nat → Bool} {Sc : Nat → Int} {rw tp un lf pa : Nat → Nat}
theorem w_cmps (hG : zd_G B) (hl : l.stackTraces = false) {R : Nat → zr} (hR : ROk R) (hM : MR R K Mn Mi Sc) {a b n X Y : Nat} {o1 o2 : Int64} (ha : a < 10) (hb : b < 10) (h1 : dg (R a).2.1 ≤ n) (h2 : dg (R b).2.1 ≤ n) (h3 : n = dg (R a).2.1 ∨ n = dg (R b).2.1)
    (hX : X = (R a).2.1 * 10 ^ (n - dg (R a).2.1)) (hY : Y = (R b).2.1 * 10 ^ (n - dg (R b).2.1)) (hq : Q (some (.int (cmpN X Y))) (mS t ln sz sc mo be ts us lz pr fa D K Mn Mi Sc rw tp un lf pa)) :
    ∀ (d i : Nat) (u v : Option Value), i + d = n → (∀ j, j < i → td X n j = td Y n j) → zm_W l B gM m_Mo_compareSizes 56 [some (.ref 53), some (.int (nI a)), some (.int (nI b)), some (.long o1), none, some (.long o2), none, some (.int (nI i)), u, v] [] (mS t ln sz sc mo be ts us lz pr fa D K Mn Mi Sc rw tp un lf pa) Q := by
  obtain ⟨ma, ka, -, -⟩ := hM.2 a ha
  obtain ⟨mb, kb, -, -⟩ := hM.2 b hb
  have ra := (hR a ha).1
  have rb := (hR b hb).1
  have pos_a := dg_pos (R a).2.1
  have pos_b := dg_pos (R b).2.1
  have lX : X < 10 ^ n := by
    rw [hX, show n = dg (R a).2.1 + (n - dg (R a).2.1) by omega, Nat.pow_add, show dg (R a).2.1 + (n - dg (R a).2.1) - dg (R a).2.1 = n - dg (R a).2.1 by omega]
    exact (Nat.mul_lt_mul_right (pow10_pos _)).mpr (dg_lt _)
  have lY : Y < 10 ^ n := by
    rw [hY, show n = dg (R b).2.1 + (n - dg (R b).2.1) by omega, Nat.pow_add, show dg (R b).2.1 + (n - dg (R b).2.1) - dg (R b).2.1 = n - dg (R b).2.1 by omega]
    exact (Nat.mul_lt_mul_right (pow10_pos _)).mpr (dg_lt _)
  intro d
  induction d with
  | zero =>
    intro i u v hi he
    have e : i = n := by omega
    subst e
    have := all_same lX lY he
    rw [cmpN_eq this] at hq
    refine zm_go (okm_Mo_compareSizes hG hl) [] 200 ?_
    conv => whnf
    refine ⟨a, rfl, by omega, ?_⟩
    conv => whnf
    dsimp only
    rw [ma]
    refine ⟨fun z => absurd ((nI_ltI (by omega) (by omega)).mp z) (by omega), fun _ => ?_⟩
    conv => whnf
    refine ⟨b, rfl, by omega, ?_⟩
    conv => whnf
    dsimp only
    rw [mb]
    refine ⟨fun _ => ?_, fun z => absurd ((nI_leI (by omega) (by omega)).mpr (by omega)) z⟩
    conv => whnf
    exact ⟨hq, trivial⟩
  | succ d ih =>
    intro i u v hi he
    have tX : td X n i = if i < dg (R a).2.1 then K (1000 * a + i) else 0 := by
      rw [hX, td_pad h1 (by omega)]
      split
      · rw [ka i ‹_›]
      · rfl
    have tY : td Y n i = if i < dg (R b).2.1 then K (1000 * b + i) else 0 := by
      rw [hY, td_pad h2 (by omega)]
      split
      · rw [kb i ‹_›]
      · rfl
    have last : ∀ (u v : Option Value), zm_W l B gM m_Mo_compareSizes 138 [some (.ref 53), some (.int (nI a)), some (.int (nI b)), some (.long o1), none, some (.long o2), none, some (.int (nI i)), some (.int (nI (td X n i))), some (.int (nI (td Y n i)))] [] (mS t ln sz sc mo be ts us lz pr fa D K Mn Mi Sc rw tp un lf pa) Q := by
      intro u v
      have lx := td_lt X n i
      have ly := td_lt Y n i
      refine zm_go (okm_Mo_compareSizes hG hl) [56] 200 ?_
      conv => whnf
      refine ⟨fun z => ?_, fun z => ?_⟩
      · have z' := (nI_eq (by omega) (by omega)).mp z
        conv => whnf
        refine ⟨?_, trivial⟩
        try dsimp only
        rw [nI_1]
        refine ih (i + 1) _ _ (by omega) (fun j hj => ?_)
        by_cases q : j = i
        · rw [q]; exact z'
        · exact he j (by omega)
      · have z' : td X n i ≠ td Y n i := fun q => z (by rw [q])
        conv => whnf
        refine ⟨fun z => ?_, fun z => ?_⟩
        · have z2 := (nI_leI (by omega) (by omega)).mp z
          conv => whnf
          have := first_diff lY lX (by omega) (fun j hj => (he j hj).symm) (by omega)
          rw [show cmpN X Y = 1 by unfold cmpN; rw [if_neg (by omega), if_neg (by omega)]] at hq
          exact ⟨hq, trivial⟩
        · have z2 : ¬ td Y n i ≤ td X n i := fun q => z ((nI_leI (by omega) (by omega)).mpr q)
          conv => whnf
          have := first_diff lX lY (by omega) he (by omega)
          rw [cmpN_lt this] at hq
          exact ⟨hq, trivial⟩
    have snd : ∀ (v : Option Value), zm_W l B gM m_Mo_compareSizes 108 [some (.ref 53), some (.int (nI a)), some (.int (nI b)), some (.long o1), none, some (.long o2), none, some (.int (nI i)), some (.int (nI (td X n i))), v] [] (mS t ln sz sc mo be ts us lz pr fa D K Mn Mi Sc rw tp un lf pa) Q := by
      intro v
      have last := last none none
      refine zm_go (okm_Mo_compareSizes hG hl) [138] 200 ?_
      conv => whnf
      refine ⟨b, rfl, by omega, ?_⟩
      conv => whnf
      dsimp only
      rw [mb]
      by_cases q : i < dg (R b).2.1
      · rw [tY, if_pos q] at last
        refine ⟨fun z => absurd ((nI_leI (by omega) (by omega)).mp z) (by omega), fun _ => ?_⟩
        conv => whnf
        refine ⟨(1000 * b + i), by rw [← nI_add, ← lmul]; rfl, by omega, ?_⟩
        conv => whnf
        refine ⟨?_, trivial⟩
        try dsimp only
        exact last
      · rw [tY, if_neg q] at last
        refine ⟨fun _ => ?_, fun z => absurd ((nI_leI (by omega) (by omega)).mpr (by omega)) z⟩
        conv => whnf
        refine ⟨?_, trivial⟩
        try dsimp only
        exact last
    have fst : zm_W l B gM m_Mo_compareSizes 78 [some (.ref 53), some (.int (nI a)), some (.int (nI b)), some (.long o1), none, some (.long o2), none, some (.int (nI i)), u, v] [] (mS t ln sz sc mo be ts us lz pr fa D K Mn Mi Sc rw tp un lf pa) Q := by
      have snd := snd v
      refine zm_go (okm_Mo_compareSizes hG hl) [108] 200 ?_
      conv => whnf
      refine ⟨a, rfl, by omega, ?_⟩
      conv => whnf
      dsimp only
      rw [ma]
      by_cases q : i < dg (R a).2.1
      · rw [tX, if_pos q] at snd
        refine ⟨fun z => absurd ((nI_leI (by omega) (by omega)).mp z) (by omega), fun _ => ?_⟩
        conv => whnf
        refine ⟨(1000 * a + i), by rw [← nI_add, ← lmul]; rfl, by omega, ?_⟩
        conv => whnf
        refine ⟨?_, trivial⟩
        try dsimp only
        exact snd
      · rw [tX, if_neg q] at snd
        refine ⟨fun _ => ?_, fun z => absurd ((nI_leI (by omega) (by omega)).mpr (by omega)) z⟩
        conv => whnf
        refine ⟨?_, trivial⟩
        try dsimp only
        exact snd
    refine zm_go (okm_Mo_compareSizes hG hl) [78] 200 ?_
    conv => whnf
    refine ⟨a, rfl, by omega, ?_⟩
    conv => whnf
    dsimp only
    rw [ma]
    refine ⟨fun z => ?_, fun z => ?_⟩
    · refine ⟨?_, trivial⟩
      try dsimp only
      exact fst
    · have z' : ¬ i < dg (R a).2.1 := fun q => z ((nI_ltI (by omega) (by omega)).mpr q)
      conv => whnf
      refine ⟨b, rfl, by omega, ?_⟩
      conv => whnf
      dsimp only
      rw [mb]
      refine ⟨fun z => absurd ((nI_leI (by omega) (by omega)).mp z) (by omega), fun _ => ?_⟩
      refine ⟨?_, trivial⟩
      try dsimp only
      exact fst
theorem k_compareSizes (hG : zd_G B) (hl : l.stackTraces = false) {R : Nat → zr} (hR : ROk R) (hM : MR R K Mn Mi Sc) {a b : Nat} (ha : a < 10) (hb : b < 10) (h0 : (R a).2.1 ≠ 0) (h1 : (R b).2.1 ≠ 0)
    (hq : Q (some (.int (cmpN (upS (R a) (max (R a).2.2 (R b).2.2)) (upS (R b) (max (R a).2.2 (R b).2.2))))) (mS t ln sz sc mo be ts us lz pr fa D K Mn Mi Sc rw tp un lf pa)) : zm_M l B gM m_Mo_compareSizes [.ref 53, .int (nI a), .int (nI b)] (mS t ln sz sc mo be ts us lz pr fa D K Mn Mi Sc rw tp un lf pa) Q := by
  obtain ⟨ma, ka, -, sa⟩ := hM.2 a ha
  obtain ⟨mb, kb, -, sb⟩ := hM.2 b hb
  obtain ⟨ra, ra2, ra3, -⟩ := hR a ha
  obtain ⟨rb, rb2, rb3, -⟩ := hR b hb
  refine zm_go (okm_Mo_compareSizes hG hl) [56] 200 ?_
  conv => whnf
  refine ⟨a, rfl, by omega, ?_⟩
  conv => whnf
  refine ⟨a, rfl, by omega, ?_⟩
  conv => whnf
  refine ⟨b, rfl, by omega, ?_⟩
  conv => whnf
  refine ⟨b, rfl, by omega, ?_⟩
  conv => whnf
  dsimp only
  rw [ma, mb, sa, sb, iI_nI, iI_nI, iI_l ⟨by omega, by omega⟩, iI_l ⟨by omega, by omega⟩, iI_l ⟨by omega, by omega⟩, iI_l ⟨by omega, by omega⟩, lI_sub, lI_sub]
  have hcmp : lg_cmp (lI ((dg (R a).2.1 : Int) - (R a).2.2)) (lI ((dg (R b).2.1 : Int) - (R b).2.2)) = 0 ↔ (dg (R a).2.1 : Int) - (R a).2.2 = dg (R b).2.1 - (R b).2.2 := by
    rw [cmp_eq]
    exact lI_eq ⟨by omega, by omega⟩ ⟨by omega, by omega⟩
  refine ⟨fun z => ?_, fun z => ?_⟩
  · have z' := hcmp.mp z
    conv => whnf
    refine ⟨?_, trivial⟩
    try dsimp only
    refine w_cmps (n := max (dg (R a).2.1) (dg (R b).2.1)) hG hl hR hM ha hb (by omega) (by omega) (by omega) rfl rfl ?_ (max (dg (R a).2.1) (dg (R b).2.1)) 0 none none (by omega) (fun j hj => by omega)
    unfold upS at hq
    rw [show (max (R a).2.2 (R b).2.2 - (R a).2.2).toNat = max (dg (R a).2.1) (dg (R b).2.1) - dg (R a).2.1 by omega, show (max (R a).2.2 (R b).2.2 - (R b).2.2).toNat = max (dg (R a).2.1) (dg (R b).2.1) - dg (R b).2.1 by omega] at hq
    exact hq
  · have z' : ¬ (dg (R a).2.1 : Int) - (R a).2.2 = dg (R b).2.1 - (R b).2.2 := fun q => z (hcmp.mpr q)
    conv => whnf
    refine ⟨fun z => ?_, fun z => ?_⟩
    · have z2 := (lI_le ⟨by omega, by omega⟩ ⟨by omega, by omega⟩).mp ((lg_cmp_ge _ _).mp z)
      conv => whnf
      have := lead_lt (x := R b) (y := R a) (s := max (R a).2.2 (R b).2.2) (by omega) (by omega) h0 (by omega)
      rw [show cmpN (upS (R a) (max (R a).2.2 (R b).2.2)) (upS (R b) (max (R a).2.2 (R b).2.2)) = 1 by unfold cmpN; rw [if_neg (by omega), if_neg (by omega)]] at hq
      exact ⟨hq, trivial⟩
    · have z2 : ¬ (dg (R b).2.1 : Int) - (R b).2.2 ≤ dg (R a).2.1 - (R a).2.2 := fun q => z ((lg_cmp_ge _ _).mpr ((lI_le ⟨by omega, by omega⟩ ⟨by omega, by omega⟩).mpr q))
      conv => whnf
      have := lead_lt (x := R a) (y := R b) (s := max (R a).2.2 (R b).2.2) (by omega) (by omega) h1 (by omega)
      rw [cmpN_lt this] at hq
      exact ⟨hq, trivial⟩
end KI

/-! the desk: remainder, power, root -/
theorem bit_c {n b : Nat} (hn : n < 1000) (hb : b < 10) : (nI n >>> (nI b &&& 31)) &&& 1 = nI (n / 2 ^ b % 2) := by
  have e : (nI n).toBitVec = BitVec.ofNat 32 n := rfl
  have hm : (BitVec.ofNat 32 n).msb = false := by
    rw [BitVec.msb_eq_false_iff_two_mul_lt, BitVec.toNat_ofNat]
    omega
  apply Int32.toBitVec.inj
  rw [Int32.toBitVec_and, Int32.toBitVec_shiftRight, e]
  have h : b = 0 ∨ b = 1 ∨ b = 2 ∨ b = 3 ∨ b = 4 ∨ b = 5 ∨ b = 6 ∨ b = 7 ∨ b = 8 ∨ b = 9 := by omega
  have key : ∀ k : Nat, ((nI b &&& 31).toBitVec.smod (32 : BitVec 32)).toNat = k → k = b := by
    rcases h with e | e | e | e | e | e | e | e | e | e <;> subst e <;> intro k hk <;> rw [← hk] <;> decide
  unfold BitVec.sshiftRight'
  rw [key _ rfl, BitVec.sshiftRight_eq_of_msb_false hm]
  apply BitVec.eq_of_toNat_eq
  rw [BitVec.toNat_and, BitVec.toNat_ushiftRight, BitVec.toNat_ofNat, Nat.shiftRight_eq_div_pow, Nat.mod_eq_of_lt (show n < 2 ^ 32 by omega)]
  show _ &&& 1 = (BitVec.ofNat 32 (n / 2 ^ b % 2)).toNat
  rw [BitVec.toNat_ofNat, Nat.and_one_is_mod]
  generalize n / 2 ^ b = q
  omega
theorem nl_of {V n : Nat} (h : dg V ≤ 9 * n) : nl V ≤ n := by
  unfold nl
  split
  · omega
  · omega
section LF
variable {l : Launch} {B : zd_B} {Q : Option Value ⊕ Nat → zx → Prop} {R : Nat → zr} {r : Int32 × Int32 × Int32} {v o c : Option Nat} {st : zx}
theorem w_reduce (hG : zd_G B) (hl : l.stackTraces = false) {C : Nat} (hC : C < 10) (hy : (R C).2.1 ≠ 0) (hyd : dg (R C).2.1 ≤ 1000) {pl : Int32} :
    ∀ (k n V : Nat) (c : Option Nat), n ≤ k → 0 < n → n < 100000 → dg V ≤ 1000 → (∀ c, Q (.inl none) (R, r, some (V * 10 ^ n % (R C).2.1), o, c)) → zx_W l B m_De_reduceRaised 2 [some (.ref 0), some (.ref (3 + 3 * C : Nat)), some (.int pl), some (.int (nI n))] [] (R, r, some V, o, c) Q := by
  intro k
  induction k with
  | zero => intro n V c h1 h2; omega
  | succ k ih =>
    intro n V c h1 h2 h3 hV hq
    refine zx_go (okx_De_reduceRaised hG hl) [2] 200 ?_
    conv => whnf
    refine ⟨fun z => absurd ((nI_leI (b := 0) (by omega) (by decide)).mp z) (by omega), fun _ => ?_⟩
    conv => whnf
    rw [iI_nI n]
    refine x_min hG hl (y := 1000) ⟨by omega, by omega⟩ ⟨by decide, by decide⟩ ?_
    conv => whnf
    refine ⟨rc_47, ?_⟩
    refine x_move47 hG hl (by omega) (fun lost a1 a2 a3 => ?_) (fun h1 h2 h3 => by omega)
    rw [show (-(min (n : Int) 1000)).toNat = 0 by omega, Nat.pow_zero, Nat.div_one, show (min (n : Int) 1000).toNat = min n 1000 by omega]
    have hdg : dg (V * 10 ^ min n 1000) ≤ 2000 := by
      by_cases h0 : V = 0
      · rw [h0, Nat.zero_mul, dg_0]; omega
      · rw [dg_mul_pow h0]; omega
    conv => whnf
    refine ⟨rc_36, ?_⟩
    refine x_splitR hG hl hC hy ?_ (fun q1 q2 => absurd (nl_226 q2) (by omega))
    conv => whnf
    refine ⟨?_, trivial⟩
    try dsimp only
    have hlt : V * 10 ^ min n 1000 % (R C).2.1 < (R C).2.1 := Nat.mod_lt _ (Nat.pos_of_ne_zero hy)
    have hd2 := Nat.le_trans (dg_mono (Nat.le_of_lt hlt)) hyd
    rw [show iI (n : Int) + -1000 = iI ((n : Int) - 1000) by rw [show (-1000 : Int32) = iI (-1000) by decide, iI_add]; rfl]
    by_cases hn : n ≤ 1000
    · rw [show min n 1000 = n by omega]
      refine zx_go (okx_De_reduceRaised hG hl) [] 200 ?_
      conv => whnf
      refine ⟨fun _ => ?_, fun z => absurd ((iI_le (b := 0) ⟨by omega, by omega⟩ ⟨by decide, by decide⟩).mpr (by omega)) z⟩
      conv => whnf
      exact ⟨hq _, trivial⟩
    · rw [show (n : Int) - 1000 = ((n - 1000 : Nat) : Int) by omega, ← iI_nI]
      refine ih (n - 1000) _ _ (by omega) (by omega) (by omega) hd2 (fun c => ?_)
      rw [show V * 10 ^ min n 1000 % (R C).2.1 * 10 ^ (n - 1000) % (R C).2.1 = V * 10 ^ n % (R C).2.1 by
        rw [Nat.mod_mul_mod, show min n 1000 = 1000 by omega, Nat.mul_assoc, ← Nat.pow_add, show 1000 + (n - 1000) = n by omega]]
      exact hq c
theorem j_reduceRaised (hG : zd_G B) (hl : l.stackTraces = false) {C n V : Nat} (hC : C < 10) (hy : (R C).2.1 ≠ 0) (hyd : dg (R C).2.1 ≤ 1000) (hn : 0 < n) (hn2 : n < 100000) (hV : dg V ≤ 1000) (hq : ∀ c, Q (.inl none) (R, r, some (V * 10 ^ n % (R C).2.1), o, c)) : zx_M l B m_De_reduceRaised [.ref 0, .ref (3 + 3 * C : Nat), .int (nI n)] (R, r, some V, o, c) Q := by
  refine zx_go (okx_De_reduceRaised hG hl) [2] 200 ?_
  conv => whnf
  refine ⟨?_, trivial⟩
  try dsimp only
  exact w_reduce hG hl hC hy hyd n n V c (Nat.le_refl _) hn hn2 hV hq
theorem j_remainder (hG : zd_G B) (hl : l.stackTraces = false) (hR : ROk R) {a b to : Int} (ha : iR a) (hb2 : iR b) (hto : iR to)
    (hb : ((a < 0 ∨ 10 ≤ a) ∨ (b < 0 ∨ 10 ≤ b) ∨ (to < 0 ∨ 10 ≤ to)) → Q (.inr 9) (R, r, v, o, c))
    (hz : ¬ ((a < 0 ∨ 10 ≤ a) ∨ (b < 0 ∨ 10 ≤ b) ∨ (to < 0 ∨ 10 ≤ to)) → ∀ C : Nat, b = C → (R C).2.1 = 0 → Q (.inr 11) (R, r, v, o, c))
    (hq : ∀ A C T : Nat, a = A → b = C → to = T → A < 10 → C < 10 → T < 10 → (R C).2.1 ≠ 0 → Cres Q R T (R A).1 (sp_rem (R A) (R C))) : zx_M l B m_De_remainder [.ref 0, .int (iI a), .int (iI b), .int (iI to)] (R, r, v, o, c) Q := by
  refine zx_go (okx_De_remainder hG hl) [168] 200 ?_
  conv => whnf
  refine j_reg3 hG hl ha hb2 hto (fun c1 c2 c5 => ?_) (fun q => hb (by omega))
  have hz' := hz (by omega)
  obtain ⟨A, rfl, hA⟩ := iI_of_nat c1
  obtain ⟨C, rfl, hC⟩ := iI_of_nat c2
  obtain ⟨T, rfl, hT⟩ := iI_of_nat c5
  obtain ⟨a1, a2, a3, -⟩ := hR A hA
  obtain ⟨b1, b2, b3, -⟩ := hR C hC
  have da := dg_pos (R A).2.1
  have dc := dg_pos (R C).2.1
  conv => whnf
  refine ⟨A, rfl, hA, ?_⟩
  conv => whnf
  refine ⟨C, rfl, hC, ?_⟩
  conv => whnf
  refine j_divisor hG hl hC (fun hy => ?_) (fun hy => hz' C rfl hy)
  have hq := hq A C T rfl rfl rfl hA hC hT hy
  unfold sp_rem at hq
  have main : ∀ (V : Nat) (s : Int) (o c : Option Nat), V = upS (R A) (max (R A).2.2 (R C).2.2) % upS (R C) (max (R A).2.2 (R C).2.2) → s = max (R A).2.2 (R C).2.2 → dg V < 2 ^ 31 → zx_W l B m_De_remainder 168 [some (.ref 0), some (.int (iI A)), some (.int (iI C)), some (.int (iI T)), some (.ref (2 + 3 * A : Nat)), some (.ref (2 + 3 * C : Nat))] [] (R, (bI (R A).1, iI s, bI false), some V, o, c) Q := by
    intro V s o c eV es hd
    subst eV
    subst es
    refine zx_go (okx_De_remainder hG hl) [] 200 ?_
    conv => whnf
    refine ⟨rc_0, ?_⟩
    exact j_keep hG hl hT ⟨by omega, by omega⟩ hd (hq.imp (fun _ h => And.intro h trivial) (fun _ h => h))
  conv => whnf
  refine ⟨rc_46, ?_⟩
  refine j_take hG hl hA ?_
  conv => whnf
  refine ⟨A, rfl, hA, ?_⟩
  conv => whnf
  refine ⟨C, rfl, hC, ?_⟩
  conv => whnf
  dsimp only
  by_cases hs : (R A).2.2 < (R C).2.2
  · refine ⟨fun z => absurd ((iI_le ⟨by omega, by omega⟩ ⟨by omega, by omega⟩).mp z) (by omega), fun _ => ?_⟩
    conv => whnf
    refine ⟨C, rfl, hC, ?_⟩
    conv => whnf
    refine ⟨C, rfl, hC, ?_⟩
    conv => whnf
    refine ⟨A, rfl, hA, ?_⟩
    conv => whnf
    dsimp only
    rw [iI_sub, show (R C).2.2 - (R A).2.2 = (((R C).2.2 - (R A).2.2).toNat : Int) by omega, ← iI_nI]
    refine ⟨rc_0, ?_⟩
    refine j_reduceRaised hG hl hC hy b1 (by omega) (by omega) a1 (fun c => ?_)
    have e1 : (R A).2.1 * 10 ^ ((R C).2.2 - (R A).2.2).toNat % (R C).2.1 = upS (R A) (max (R A).2.2 (R C).2.2) % upS (R C) (max (R A).2.2 (R C).2.2) := by
      unfold upS
      rw [show max (R A).2.2 (R C).2.2 = (R C).2.2 by omega, show ((R C).2.2 - (R C).2.2).toNat = 0 by omega, Nat.pow_zero, Nat.mul_one]
    have hlt : (R A).2.1 * 10 ^ ((R C).2.2 - (R A).2.2).toNat % (R C).2.1 < (R C).2.1 := Nat.mod_lt _ (Nat.pos_of_ne_zero hy)
    conv => whnf
    refine ⟨C, rfl, hC, ?_⟩
    conv => whnf
    refine ⟨?_, trivial⟩
    try dsimp only
    exact main _ _ _ _ e1 (by omega) (dg31 (Nat.lt_trans hlt (hR.lt hC)))
  · refine ⟨fun _ => ?_, fun z => absurd ((iI_le ⟨by omega, by omega⟩ ⟨by omega, by omega⟩).mpr (by omega)) z⟩
    have ea : upS (R A) (max (R A).2.2 (R C).2.2) = (R A).2.1 := by
      unfold upS
      rw [show (max (R A).2.2 (R C).2.2 - (R A).2.2).toNat = 0 by omega, Nat.pow_zero, Nat.mul_one]
    have ec : upS (R C) (max (R A).2.2 (R C).2.2) = (R C).2.1 * 10 ^ ((R A).2.2 - (R C).2.2).toNat := by
      unfold upS
      rw [show max (R A).2.2 (R C).2.2 = (R A).2.2 by omega]
    have dc2 := dg_mul_pow hy ((R A).2.2 - (R C).2.2).toNat
    conv => whnf
    refine ⟨C, rfl, hC, ?_⟩
    conv => whnf
    refine ⟨(rc_n hC), ?_⟩
    refine x_digitsR hG hl hC ?_
    conv => whnf
    refine ⟨A, rfl, hA, ?_⟩
    conv => whnf
    refine ⟨C, rfl, hC, ?_⟩
    conv => whnf
    refine ⟨A, rfl, hA, ?_⟩
    conv => whnf
    refine ⟨(rc_n hA), ?_⟩
    refine x_digitsR hG hl hA ?_
    conv => whnf
    dsimp only
    rw [iI_nI (dg (R A).2.1), iI_nI (dg (R C).2.1), iI_add, iI_sub]
    by_cases hb : (dg (R A).2.1 : Int) < dg (R C).2.1 + (R A).2.2 - (R C).2.2
    · refine ⟨fun _ => ?_, fun z => absurd ((iI_lt ⟨by omega, by omega⟩ ⟨by omega, by omega⟩).mpr hb) z⟩
      refine ⟨?_, trivial⟩
      try dsimp only
      refine main _ _ _ _ ?_ (by omega) (dg31 (hR.lt hA))
      rw [ea, ec, Nat.mod_eq_of_lt]
      refine Nat.lt_of_not_le (fun q => ?_)
      have := dg_mono q
      omega
    · refine ⟨fun z => absurd ((iI_lt ⟨by omega, by omega⟩ ⟨by omega, by omega⟩).mp z) hb, fun _ => ?_⟩
      conv => whnf
      refine ⟨C, rfl, hC, ?_⟩
      conv => whnf
      refine ⟨rc_49, ?_⟩
      refine x_copy49r hG hl hC ?_
      conv => whnf
      refine ⟨A, rfl, hA, ?_⟩
      conv => whnf
      refine ⟨C, rfl, hC, ?_⟩
      conv => whnf
      dsimp only
      rw [iI_sub]
      refine ⟨rc_49, ?_⟩
      refine x_move49 hG hl (by omega) (fun lost q1 q2 q3 => ?_) (fun h1 h2 h3 => by omega)
      rw [show (-((R A).2.2 - (R C).2.2)).toNat = 0 by omega, Nat.pow_zero, Nat.div_one]
      have hne : (R C).2.1 * 10 ^ ((R A).2.2 - (R C).2.2).toNat ≠ 0 := Nat.ne_of_gt (Nat.mul_pos (Nat.pos_of_ne_zero hy) (pow10_pos _))
      conv => whnf
      refine ⟨rc_36, ?_⟩
      refine x_split49 hG hl hne ?_ (fun q1 q2 => absurd (nl_226 q2) (by omega))
      conv => whnf
      refine ⟨?_, trivial⟩
      try dsimp only
      exact main _ _ _ _ (by rw [ea, ec]) (by omega) (dg31 (Nat.lt_of_le_of_lt (Nat.mod_le _ _) (hR.lt hA)))
theorem j_grow47 (hG : zd_G B) (hl : l.stackTraces = false) {V : Nat} (hV : dg V ≤ 1000) (hd : dg (V * V) < 2 ^ 31)
    (hq : dg (V * V) ≤ 1000 → Q (.inl none) (R, r, some (V * V), o, some (V * V))) (hx : 1000 < dg (V * V) → ∀ r v c, Q (.inr 11) (R, r, v, o, c)) : zx_M l B m_De_growRough [.ref 0, .ref 47] (R, r, some V, o, c) Q := by
  refine zx_go (okx_De_growRough hG hl) [] 200 ?_
  conv => whnf
  refine ⟨rc_51, ?_⟩
  refine x_prod51s hG hl (nl_of (by omega)) ?_
  conv => whnf
  refine j_digits51 hG hl hd (fun c1 => ?_) (fun c1 => hx c1 _ _ _)
  conv => whnf
  refine ⟨rc_47, ?_⟩
  refine x_copy47_51 hG hl ?_
  conv => whnf
  exact ⟨hq c1, trivial⟩
theorem j_growR (hG : zd_G B) (hl : l.stackTraces = false) {V A : Nat} (hA : A < 10) (hV : dg V ≤ 1000) (hd : dg (V * (R A).2.1) < 2 ^ 31)
    (hq : dg (V * (R A).2.1) ≤ 1000 → Q (.inl none) (R, r, some (V * (R A).2.1), o, some (V * (R A).2.1))) (hx : 1000 < dg (V * (R A).2.1) → ∀ r v c, Q (.inr 11) (R, r, v, o, c)) : zx_M l B m_De_growRough [.ref 0, .ref (3 + 3 * A : Nat)] (R, r, some V, o, c) Q := by
  refine zx_go (okx_De_growRough hG hl) [] 200 ?_
  conv => whnf
  refine ⟨rc_51, ?_⟩
  refine x_prod51r hG hl hA (nl_of (by omega)) ?_
  conv => whnf
  refine j_digits51 hG hl hd (fun c1 => ?_) (fun c1 => hx c1 _ _ _)
  conv => whnf
  refine ⟨rc_47, ?_⟩
  refine x_copy47_51 hG hl ?_
  conv => whnf
  exact ⟨hq c1, trivial⟩
theorem dg_mul31 {V W : Nat} (h1 : dg V ≤ 1000) (h2 : dg W ≤ 1000) : dg (V * W) < 2 ^ 31 := by
  have h1 : V < 10 ^ 1000 := Nat.lt_of_lt_of_le (dg_lt _) (Nat.pow_le_pow_right (by decide) h1)
  have h2 : W < 10 ^ 1000 := Nat.lt_of_lt_of_le (dg_lt _) (Nat.pow_le_pow_right (by decide) h2)
  have h3 := Nat.mul_lt_mul'' h1 h2
  rw [← Nat.pow_add] at h3
  exact dg31 (Nat.lt_of_lt_of_le h3 (Nat.pow_le_pow_right (by decide) (by decide)))
theorem w_pow (hG : zd_G B) (hl : l.stackTraces = false) (hR : ROk R) {A n T : Nat} (hA : A < 10) (hn : n ≤ 999) {x1 x3 : Int32}
    (hq : dg ((R A).2.1 ^ n) ≤ 1000 → ∀ c, zx_W l B m_De_power 89 [some (.ref 0), some (.int x1), some (.int (nI n)), some (.int x3), some (.ref (2 + 3 * A : Nat)), some (.int (iI (-1)))] [] (R, r, some ((R A).2.1 ^ n), o, c) Q)
    (hx : 1000 < dg ((R A).2.1 ^ n) → ∀ r v c, Q (.inr 11) (R, r, v, o, c)) :
    ∀ (b : Nat) (c : Option Nat), b ≤ 10 → dg ((R A).2.1 ^ (n / 2 ^ b)) ≤ 1000 → zx_W l B m_De_power 49 [some (.ref 0), some (.int x1), some (.int (nI n)), some (.int x3), some (.ref (2 + 3 * A : Nat)), some (.int (iI ((b : Int) - 1)))] [] (R, r, some ((R A).2.1 ^ (n / 2 ^ b)), o, c) Q := by
  have hx : ∀ k, k ≤ n → 1000 < dg ((R A).2.1 ^ k) → ∀ r v c, Q (.inr 11) (R, r, v, o, c) := by
    intro k hk h
    refine hx ?_
    by_cases h0 : (R A).2.1 = 0
    · rcases Nat.eq_zero_or_pos k with e | e
      · subst e
        rw [Nat.pow_zero, dg_1 (by decide)] at h
        omega
      · rw [h0, Nat.zero_pow e, dg_0] at h
        omega
    · exact Nat.lt_of_lt_of_le h (dg_mono (pow_mono hk (Nat.pos_of_ne_zero h0)))
  intro b
  induction b with
  | zero =>
    intro c hb hd
    rw [Nat.pow_zero, Nat.div_one] at hd ⊢
    refine zx_go (okx_De_power hG hl) [89] 200 ?_
    conv => whnf
    refine ⟨fun _ => ?_, fun z => absurd (by decide) z⟩
    refine ⟨?_, trivial⟩
    try dsimp only
    exact hq hd c
  | succ b ih =>
    intro c hb hd
    have hh : n / 2 ^ (b + 1) = n / 2 ^ b / 2 := by rw [Nat.pow_succ, Nat.div_div_eq_div_mul]
    have hle : n / 2 ^ b ≤ n := Nat.div_le_self _ _
    rw [show ((b + 1 : Nat) : Int) - 1 = (b : Int) by omega]
    rw [hh] at hd ⊢
    generalize hg : n / 2 ^ b = g at *
    have hVV : (R A).2.1 ^ (g / 2) * (R A).2.1 ^ (g / 2) = (R A).2.1 ^ (g / 2 * 2) := by rw [← Nat.pow_add]; congr 1; omega
    refine zx_go (okx_De_power hG hl) [49, 83] 200 ?_
    conv => whnf
    refine ⟨fun z => absurd ((iI_lt (b := 0) ⟨by omega, by omega⟩ ⟨by decide, by decide⟩).mp z) (by omega), fun _ => ?_⟩
    conv => whnf
    refine ⟨rc_0, ?_⟩
    refine j_grow47 hG hl hd (dg_mul31 hd hd) (fun q1 => ?_) (fun q1 => ?_)
    · rw [hVV] at q1 ⊢
      conv => whnf
      rw [← iI_nI b, bit_c (by omega) (by omega), hg]
      rcases Nat.mod_two_eq_zero_or_one g with m | m
      · rw [m]
        refine ⟨fun _ => ?_, fun z => absurd rfl z⟩
        refine ⟨?_, trivial⟩
        try dsimp only
        rw [show g / 2 * 2 = g by omega] at q1 ⊢
        refine zx_go (okx_De_power hG hl) [49] 200 ?_
        conv => whnf
        refine ⟨?_, trivial⟩
        try dsimp only
        rw [iI_nI b, iI_m1]
        exact ih _ (by omega) q1
      · rw [m]
        refine ⟨fun z => absurd z (by decide), fun _ => ?_⟩
        have e1 : (R A).2.1 ^ (g / 2 * 2) * (R A).2.1 = (R A).2.1 ^ g := by rw [← Nat.pow_succ]; congr 1; omega
        conv => whnf
        refine ⟨A, rfl, hA, ?_⟩
        conv => whnf
        refine ⟨rc_0, ?_⟩
        refine j_growR hG hl hA q1 (dg_mul31 q1 (hR A hA).1) (fun q2 => ?_) (fun q2 => ?_)
        · rw [e1] at q2 ⊢
          conv => whnf
          refine ⟨?_, trivial⟩
          try dsimp only
          refine zx_go (okx_De_power hG hl) [49] 200 ?_
          conv => whnf
          refine ⟨?_, trivial⟩
          try dsimp only
          rw [iI_nI b, iI_m1]
          exact ih _ (by omega) q2
        · rw [e1] at q2
          exact hx g hle q2
    · rw [hVV] at q1
      exact hx (g / 2 * 2) (by omega) q1
theorem j_power (hG : zd_G B) (hl : l.stackTraces = false) (hR : ROk R) {a n to : Int} (ha : iR a) (hn : iR n) (hto : iR to)
    (hb : ((a < 0 ∨ 10 ≤ a) ∨ (to < 0 ∨ 10 ≤ to) ∨ n < 0 ∨ 999 < n) → Q (.inr 9) (R, r, v, o, c))
    (hq : ∀ A N T : Nat, a = A → n = N → to = T → A < 10 → N ≤ 999 → T < 10 → Cres Q R T ((R A).1 && decide (N % 2 = 1)) (some ((R A).2.1 ^ N, N * (R A).2.2))) : zx_M l B m_De_power [.ref 0, .int (iI a), .int (iI n), .int (iI to)] (R, r, v, o, c) Q := by
  have r0 : iR 0 := ⟨by decide, by decide⟩
  have r9 : iR 999 := ⟨by decide, by decide⟩
  refine zx_go (okx_De_power hG hl) [49] 200 ?_
  conv => whnf
  refine j_reg2 hG hl ha hto (fun c1 c2 => ?_) (fun q => hb (by omega))
  conv => whnf
  by_cases n1 : n < 0
  · refine ⟨fun _ => ?_, fun z => absurd ((iI_lt hn r0).mpr n1) z⟩
    conv => whnf
    exact ⟨hb (by omega), trivial⟩
  · refine ⟨fun z => absurd ((iI_lt hn r0).mp z) n1, fun _ => ?_⟩
    conv => whnf
    by_cases n2 : n ≤ 999
    · refine ⟨fun _ => ?_, fun z => absurd ((iI_le hn r9).mpr n2) z⟩
      obtain ⟨A, rfl, hA⟩ := iI_of_nat c1
      obtain ⟨T, rfl, hT⟩ := iI_of_nat c2
      obtain ⟨N, rfl, hN⟩ : ∃ N : Nat, n = N ∧ N ≤ 999 := ⟨n.toNat, by omega, by omega⟩
      obtain ⟨a1, a2, a3, -⟩ := hR A hA
      have hq := hq A N T rfl rfl rfl hA hN hT
      have hsc : -10000000 ≤ (N : Int) * (R A).2.2 ∧ (N : Int) * (R A).2.2 ≤ 10000000 := by
        constructor
        · have := Int.mul_le_mul_of_nonneg_left (c := (N : Int)) a2 (by omega); omega
        · have := Int.mul_le_mul_of_nonneg_left (c := (N : Int)) a3 (by omega); omega
      conv => whnf
      refine ⟨A, rfl, hA, ?_⟩
      conv => whnf
      refine ⟨rc_47, ?_⟩
      refine x_become47 hG hl (x := 1) ⟨by decide, by decide⟩ ?_
      conv => whnf
      refine ⟨?_, trivial⟩
      try dsimp only
      rw [← iI_nI N]
      have start := w_pow (r := r) (o := o) (x1 := iI A) (x3 := iI T) (T := T) hG hl hR hA hN (fun hd c => ?_) (fun h r v c => hq.2 (by rw [fin_some, if_neg (by omega)]) _ _ _ _) 10 c (by decide) (by rw [Nat.div_eq_of_lt (by omega), Nat.pow_zero, dg_1 (by decide)]; decide)
      · rw [Nat.div_eq_of_lt (by omega), Nat.pow_zero] at start
        exact start
      · have main : zx_W l B m_De_power 112 [some (.ref 0), some (.int (iI A)), some (.int (nI N)), some (.int (iI T)), some (.ref (2 + 3 * A : Nat)), some (.int (iI (-1)))] [.int (bI ((R A).1 && decide (N % 2 = 1))), .ref 46] (R, r, some ((R A).2.1 ^ N), o, c) Q := by
          refine zx_go (okx_De_power hG hl) [] 200 ?_
          conv => whnf
          refine ⟨A, rfl, hA, ?_⟩
          conv => whnf
          dsimp only
          rw [iI_nI N, iI_mul]
          refine ⟨rc_46, ?_⟩
          refine j_describe hG hl ?_
          conv => whnf
          refine ⟨rc_0, ?_⟩
          exact j_keep hG hl hT ⟨by omega, by omega⟩ (by omega) (hq.imp (fun _ h => And.intro h trivial) (fun _ h => h))
        refine zx_go (okx_De_power hG hl) [112] 200 ?_
        conv => whnf
        refine ⟨A, rfl, hA, ?_⟩
        conv => whnf
        dsimp only
        cases hng : (R A).1
        · rw [hng, Bool.false_and] at main
          refine ⟨fun _ => ?_, fun z => absurd rfl z⟩
          conv => whnf
          refine ⟨?_, trivial⟩
          try dsimp only
          exact main
        · rw [hng, Bool.true_and] at main
          refine ⟨fun z => absurd z (show ¬ bI true = 0 by decide), fun _ => ?_⟩
          conv => whnf
          refine ⟨by decide, ?_⟩
          conv => whnf
          rw [show nI N - nI N / 2 * 2 = nI (N % 2) from nI_rm (b := 2) (by omega) (by decide) (by decide)]
          rcases Nat.mod_two_eq_zero_or_one N with m | m
          · rw [decide_eq_false (by omega)] at main
            rw [m]
            refine ⟨fun _ => ?_, fun z => absurd rfl z⟩
            conv => whnf
            refine ⟨?_, trivial⟩
            try dsimp only
            exact main
          · rw [decide_eq_true m] at main
            rw [m]
            refine ⟨fun z => absurd z (by decide), fun _ => ?_⟩
            conv => whnf
            refine ⟨?_, trivial⟩
            try dsimp only
            exact main
    · refine ⟨fun z => absurd ((iI_le hn r9).mp z) n2, fun _ => ?_⟩
      conv => whnf
      exact ⟨hb (by omega), trivial⟩
theorem j_root (hG : zd_G B) (hl : l.stackTraces = false) (hR : ROk R) {a to p md : Int} (ha : iR a) (hto : iR to) (hp : iR p) (hmd : iR md)
    (hb : ((a < 0 ∨ 10 ≤ a) ∨ (to < 0 ∨ 10 ≤ to) ∨ (md < 0 ∨ 8 ≤ md) ∨ p < 1 ∨ 1000 < p) → Q (.inr 9) (R, r, v, o, c))
    (hz : ¬ ((a < 0 ∨ 10 ≤ a) ∨ (to < 0 ∨ 10 ≤ to) ∨ (md < 0 ∨ 8 ≤ md) ∨ p < 1 ∨ 1000 < p) → ∀ A : Nat, a = A → (R A).1 = true → Q (.inr 11) (R, r, v, o, c))
    (hq : ∀ A T P M : Nat, a = A → to = T → p = P → md = M → A < 10 → T < 10 → 1 ≤ P → P ≤ 1000 → M < 8 → (R A).1 = false → Cres Q R T false (sp_root (R A) P M)) : zx_M l B m_De_root [.ref 0, .int (iI a), .int (iI to), .int (iI p), .int (iI md)] (R, r, v, o, c) Q := by
  refine zx_go (okx_De_root hG hl) [156, 168] 200 ?_
  conv => whnf
  refine j_reg2 hG hl ha hto (fun c1 c2 => ?_) (fun q => hb (by omega))
  conv => whnf
  refine j_mode hG hl hmd (fun c3 => ?_) (fun q => hb (by omega))
  conv => whnf
  refine j_prec hG hl hp (b := 1) ⟨by decide, by decide⟩ (fun c4 => ?_) (fun q => hb (by omega))
  have hz' := hz (by omega)
  obtain ⟨A, rfl, hA⟩ := iI_of_nat c1
  obtain ⟨T, rfl, hT⟩ := iI_of_nat c2
  obtain ⟨M, rfl, hM⟩ := iI_of_nat8 c3
  obtain ⟨P, rfl, hP⟩ : ∃ P : Nat, p = P ∧ (1 ≤ P ∧ P ≤ 1000) := ⟨p.toNat, by omega, by omega, by omega⟩
  obtain ⟨a1, a2, a3, -⟩ := hR A hA
  have da := dg_pos (R A).2.1
  conv => whnf
  refine ⟨A, rfl, hA, ?_⟩
  conv => whnf
  refine ⟨A, rfl, hA, ?_⟩
  conv => whnf
  dsimp only
  cases hng : (R A).1
  · have hq := hq A T P M rfl rfl rfl rfl hA hT hP.1 hP.2 hM hng
    refine ⟨fun _ => ?_, fun z => absurd rfl z⟩
    have main : ∀ (V : Nat) (s : Int) (lo : Bool) (x6 x7 : Option Value) (c : Option Nat), V < 10 ^ 2034 → (V ≠ 0 ∨ lo = false) → -50000 < s → s < 50000 → fit P ((R A).2.2 / 2) M false V s lo = sp_root (R A) P M → zx_W l B m_De_root 168 [some (.ref 0), some (.int (iI A)), some (.int (iI T)), some (.int (iI P)), some (.int (iI M)), some (.ref (2 + 3 * A : Nat)), x6, x7] [] (R, (bI false, iI s, bI lo), some V, o, c) Q := by
      intro V s lo x6 x7 c h1 h2 h3 h4 e
      rw [← e] at hq
      refine zx_go (okx_De_root hG hl) [] 200 ?_
      conv => whnf
      refine ⟨A, rfl, hA, ?_⟩
      conv => whnf
      dsimp only
      refine x_fdiv hG hl (y := 2) ⟨by omega, by omega⟩ ⟨by decide, by decide⟩ (by decide) ?_
      conv => whnf
      refine ⟨rc_46, ?_⟩
      refine j_fit hG hl hM hP.1 hP.2 h1 h2 ⟨by omega, by omega⟩ ⟨by omega, by omega⟩ (fun V' s' lo' e h1 h2 h3 => ?_) (fun e r v => hq.2 (by rw [e]; rfl) _ _ _ _)
      conv => whnf
      refine ⟨rc_0, ?_⟩
      rw [e] at hq
      exact j_keep hG hl hT ⟨by omega, by omega⟩ (dg31 h1) (hq.imp (fun _ h => And.intro h trivial) (fun _ h => h))
    conv => whnf
    refine ⟨rc_46, ?_⟩
    refine j_take hG hl hA ?_
    rw [hng]
    conv => whnf
    refine ⟨A, rfl, hA, ?_⟩
    conv => whnf
    refine ⟨(rc_n hA), ?_⟩
    refine x_isZeroR hG hl hA ?_
    conv => whnf
    by_cases h0 : (R A).2.1 = 0
    · rw [decide_eq_true h0]
      refine ⟨fun _ => ?_, fun z => absurd z (show ¬ bI true = 0 by decide)⟩
      refine ⟨?_, trivial⟩
      try dsimp only
      refine main _ _ _ _ _ _ (hR.lt hA) (Or.inr rfl) (by omega) (by omega) ?_
      unfold sp_root
      rw [h0, root_zero.1, root_zero.2]
      rfl
    · rw [decide_eq_false h0]
      refine ⟨fun z => absurd rfl z, fun _ => ?_⟩
      conv => whnf
      refine ⟨A, rfl, hA, ?_⟩
      conv => whnf
      refine ⟨(rc_n hA), ?_⟩
      refine x_digitsR hG hl hA ?_
      conv => whnf
      refine ⟨A, rfl, hA, ?_⟩
      conv => whnf
      dsimp only
      rw [show (2 : Int32) * iI P - nI (dg (R A).2.1) + iI (R A).2.2 = iI (2 * P - dg (R A).2.1 + (R A).2.2) by rw [iI_nI, show (2 : Int32) = iI 2 from rfl, iI_mul, iI_sub, iI_add]]
      refine x_fdiv hG hl (y := 2) ⟨by omega, by omega⟩ ⟨by decide, by decide⟩ (by decide) ?_
      conv => whnf
      rw [show iI ((2 * P - dg (R A).2.1 + (R A).2.2) / 2) + 1 = iI ((2 * P - dg (R A).2.1 + (R A).2.2) / 2 + 1) from iI_add _ 1]
      have hdg := root_dg (V := (R A).2.1) (s := (R A).2.2) hP.1 h0
      have e := dg_cut h0 (s := (R A).2.2) (n := (2 * ((2 * P - dg (R A).2.1 + (R A).2.2) / 2 + 1) - (R A).2.2 + dg (R A).2.1).toNat) (by omega)
      rw [show (R A).2.2 + ((2 * ((2 * P - dg (R A).2.1 + (R A).2.2) / 2 + 1) - (R A).2.2 + dg (R A).2.1).toNat : Int) - dg (R A).2.1 = 2 * ((2 * P - dg (R A).2.1 + (R A).2.2) / 2 + 1) by omega] at e
      have hsr : sp_root (R A) P M = fit P ((R A).2.2 / 2) M false (rV (R A).2.1 (R A).2.2 ((2 * P - dg (R A).2.1 + (R A).2.2) / 2 + 1)) ((2 * P - dg (R A).2.1 + (R A).2.2) / 2 + 1) (rL (R A).2.1 (R A).2.2 ((2 * P - dg (R A).2.1 + (R A).2.2) / 2 + 1)) := rfl
      generalize hw : (2 * (P : Int) - dg (R A).2.1 + (R A).2.2) / 2 + 1 = w at *
      rw [show (2 : Int32) * iI w = iI (2 * w) from iI_mul 2 w]
      refine ⟨rc_46, ?_⟩
      refine j_cutTo hG hl (by omega) (fun hr => ?_) (fun q1 q2 q3 => by omega)
      rw [Bool.false_or]
      generalize hX : cutV (R A).2.1 (R A).2.2 (2 * w) = X at *
      generalize hL : cutL (R A).2.1 (R A).2.2 (2 * w) = L at *
      have hX0 : 0 < X := Nat.pos_of_ne_zero (fun q => by rw [q, dg_0] at e; omega)
      have erV : rV (R A).2.1 (R A).2.2 w = isq X := by unfold rV; rw [hX]
      have erL : rL (R A).2.1 (R A).2.2 w = (L || decide (isq X * isq X ≠ X)) := by unfold rL; rw [erV, hX, hL]
      rw [erV] at hdg
      rw [erV, erL] at hsr
      have hXb : X < 10 ^ 2034 := Nat.lt_of_lt_of_le (dg_lt X) (Nat.pow_le_pow_right (by decide) (by omega))
      have hsq : isq X < 10 ^ 2034 := by
        have h1 := (isq_s X).1
        have : isq X ≤ isq X * isq X := Nat.le_mul_of_pos_left _ (Nat.pos_of_ne_zero (fun q => by rw [q, dg_0] at hdg; omega))
        omega
      conv => whnf
      refine ⟨rc_39, ?_⟩
      refine x_extract hG hl hX0 (nl_of (by omega)) ?_
      conv => whnf
      refine ⟨rc_47, ?_⟩
      refine x_copy47_51 hG hl ?_
      conv => whnf
      have main2 : zx_W l B m_De_root 156 [some (.ref 0), some (.int (iI A)), some (.int (iI T)), some (.int (iI P)), some (.int (iI M)), some (.ref (2 + 3 * A : Nat)), some (.int (iI w)), some (.int (bI (decide (isq X * isq X = X))))] [.int (bI (L || decide (isq X * isq X ≠ X))), .ref 46] (R, (bI false, iI (2 * w), bI L), some (isq X), o, some (isq X)) Q := by
        refine zx_go (okx_De_root hG hl) [168] 200 ?_
        conv => whnf
        refine ⟨(L || decide (isq X * isq X ≠ X)), rfl, ?_⟩
        conv => whnf
        refine ⟨?_, trivial⟩
        try dsimp only
        exact main _ _ _ _ _ _ hsq (Or.inl (fun q => by rw [q, dg_0] at hdg; omega)) (by omega) (by omega) hsr.symm
      cases L
      · rw [Bool.false_or] at main2
        refine ⟨fun z => absurd rfl z, fun _ => ?_⟩
        conv => whnf
        by_cases hx : isq X * isq X = X
        · rw [decide_eq_true hx, decide_eq_false (fun q => q hx)] at main2
          rw [decide_eq_true hx]
          refine ⟨fun _ => ?_, fun z => absurd z (show ¬ bI true = 0 by decide)⟩
          conv => whnf
          refine ⟨?_, trivial⟩
          try dsimp only
          exact main2
        · rw [decide_eq_false hx, decide_eq_true hx] at main2
          rw [decide_eq_false hx]
          refine ⟨fun z => absurd rfl z, fun _ => ?_⟩
          conv => whnf
          refine ⟨?_, trivial⟩
          try dsimp only
          exact main2
      · rw [Bool.true_or] at main2
        refine ⟨fun _ => ?_, fun z => absurd z (show ¬ bI true = 0 by decide)⟩
        conv => whnf
        refine ⟨?_, trivial⟩
        try dsimp only
        exact main2
  · refine ⟨fun z => absurd z (show ¬ bI true = 0 by decide), fun _ => ?_⟩
    conv => whnf
    exact ⟨hz' A rfl hng, trivial⟩
end LF

/-! the model: add -/
theorem mod_step (X k : Nat) : X % 10 ^ (k + 1) = X % 10 ^ k + X / 10 ^ k % 10 * 10 ^ k := by
  rw [Nat.pow_succ, Nat.mod_mul, Nat.mul_comm (10 ^ k)]
/-- too long, whichever way -/
theorem add_long {x y : zr} {less : Bool} (h1 : dg x.2.1 ≤ 1000) (h2 : dg y.2.1 ≤ 1000) (h : 1001 < dg (upS x (max x.2.2 y.2.2)) ∨ 1001 < dg (upS y (max x.2.2 y.2.2))) : 1000 < dg (sp_addV x y less).2 := by
  have key : ∀ u v : zr, dg u.2.1 ≤ 1000 → dg v.2.1 ≤ 1000 → 1001 < dg (upS u (max u.2.2 v.2.2)) → upS v (max u.2.2 v.2.2) < 10 ^ 1000 ∧ 10 ^ 1001 ≤ upS u (max u.2.2 v.2.2) := by
    intro u v hu hv hl
    have hne : upS u (max u.2.2 v.2.2) ≠ 0 := fun q => by rw [q, dg_0] at hl; omega
    have hs : max u.2.2 v.2.2 = v.2.2 := by
      rcases Int.le_total u.2.2 v.2.2 with c | c
      · omega
      · exfalso
        unfold upS at hl
        rw [show (max u.2.2 v.2.2 - u.2.2).toNat = 0 by omega, Nat.pow_zero, Nat.mul_one] at hl
        omega
    constructor
    · unfold upS
      rw [hs, Int.sub_self]
      show v.2.1 * 10 ^ 0 < _
      rw [Nat.pow_zero, Nat.mul_one]
      exact (dg_le_iff (by decide)).mp hv
    · have := dg_ge _ (Nat.pos_of_ne_zero hne)
      exact Nat.le_trans (Nat.pow_le_pow_right (by decide) (by omega)) this
  have p10 : (10 : Nat) ^ 1001 = 10 ^ 1000 * 10 := by rw [show (1001 : Nat) = 1000 + 1 from rfl, Nat.pow_succ]
  have fin : ∀ n, 10 ^ 1000 ≤ n → 1000 < dg n := by
    intro n hn
    rcases Nat.lt_or_ge 1000 (dg n) with c | c
    · exact c
    · have := (dg_le_iff (V := n) (n := 1000) (by decide)).mp c
      exact absurd hn (Nat.not_le.mpr this)
  apply fin
  unfold sp_addV
  rcases h with h | h
  · obtain ⟨a, b⟩ := key x y h1 h2 h
    generalize (10 : Nat) ^ 1000 = T at *
    split
    · show T ≤ _ + _; omega
    · split
      · show T ≤ _ - _; omega
      · show T ≤ _ - _; omega
  · rw [Int.max_comm] at h
    obtain ⟨a, b⟩ := key y x h2 h1 h
    rw [Int.max_comm] at a b
    generalize (10 : Nat) ^ 1000 = T at *
    split
    · show T ≤ _ + _; omega
    · split
      · show T ≤ _ - _; omega
      · show T ≤ _ - _; omega
/-- what the model decides about two numbers -/
def a_ot (y : zr) (less : Bool) : Bool := decide (y.2.1 ≠ 0) && (y.1 != less)
def a_al (x y : zr) (less : Bool) : Bool := decide (x.2.1 = 0) || (decide (y.2.1 = 0) || (x.1 == a_ot y less))
def a_sw (x y : zr) (less : Bool) (s : Int) : Bool := !(a_al x y less) && decide (upS x s < upS y s)
def a_be (x y : zr) (less : Bool) (s : Int) : Bool := if x.2.1 = 0 then a_ot y less else if y.2.1 = 0 then x.1 else if a_sw x y less s then a_ot y less else x.1
def a_V (x y : zr) (less : Bool) (s : Int) : Nat := if a_al x y less then upS x s + upS y s else if a_sw x y less s then upS y s - upS x s else upS x s - upS y s
theorem a_eq {x y : zr} {less : Bool} (hx : x.1 = true → x.2.1 ≠ 0) : a_V x y less (max x.2.2 y.2.2) = (sp_addV x y less).2 ∧ (a_be x y less (max x.2.2 y.2.2) && decide (a_V x y less (max x.2.2 y.2.2) ≠ 0)) = ((sp_addV x y less).1 && decide (a_V x y less (max x.2.2 y.2.2) ≠ 0)) := by
  unfold a_V a_be a_sw a_al sp_addV
  by_cases zx : x.2.1 = 0
  · have hxf : x.1 = false := by cases h : x.1; rfl; exact absurd zx (hx h)
    have e0 : upS x (max x.2.2 y.2.2) = 0 := by unfold upS; rw [zx, Nat.zero_mul]
    rw [e0, hxf]
    by_cases zy : y.2.1 = 0
    · have e1 : upS y (max x.2.2 y.2.2) = 0 := by unfold upS; rw [zy, Nat.zero_mul]
      rw [e1]
      simp [zx, zy]
    · have e1 : upS y (max x.2.2 y.2.2) ≠ 0 := Nat.ne_of_gt (Nat.mul_pos (by omega) (pow10_pos _))
      have e2 : a_ot y less = (y.1 != less) := by unfold a_ot; simp [zy]
      generalize upS y (max x.2.2 y.2.2) = Y at *
      cases hb : (y.1 != less)
      · simp [zx, zy, e2, hb]
      · simp [zx, zy, e2, hb, e1]
  · by_cases zy : y.2.1 = 0
    · have e1 : upS y (max x.2.2 y.2.2) = 0 := by unfold upS; rw [zy, Nat.zero_mul]
      rw [e1]
      simp [zx, zy]
    · have e2 : a_ot y less = (y.1 != less) := by unfold a_ot; simp [zy]
      rw [e2]
      generalize upS y (max x.2.2 y.2.2) = Y
      generalize upS x (max x.2.2 y.2.2) = X
      cases x.1 <;> cases (y.1 != less) <;> by_cases c : X < Y <;> simp [zx, zy, c]
      all_goals first | omega | (rw [if_pos (by omega)]; simp) | (rw [if_neg (by omega)]; simp) | skip
section KW
variable {l : Launch} {B : zd_B} {Q : Option Value → zst → Prop} {t ln sz : Nat} {sc : Int} {mo be : Bool} {ts us lz pr fa : Nat} {D K Mn : Nat → Nat} {Mi : Nat → Bool} {Sc : Nat → Int} {rw tp un lf pa : Nat → Nat}
theorem w_add296 (hG : zd_G B) (hl : l.stackTraces = false) {R : Nat → zr} (hR : ROk R) (hM : MR R K Mn Mi Sc) {A C T x y n : Nat} {s : Int} {o1 o2 : Int64} {less ot al sw : Bool} (lx : x < 10) (ly : y < 10) (hn : n ≤ 1100) (hsx : (R x).2.2 ≤ s) (hsy : (R y).2.2 ≤ s) (hs2 : s ≤ 10000)
    (hq : ∀ g c x19, (∀ j, j < n → g j < 10) → (∀ j, n ≤ j → g j = rw j) → -1 ≤ c → c ≤ 1 → (tv g n : Int) + c * ((10 ^ n : Nat) : Int) = ((upS (R x) s % 10 ^ n : Nat) : Int) + (if al then ((upS (R y) s % 10 ^ n : Nat) : Int) else -((upS (R y) s % 10 ^ n : Nat) : Int)) → zm_W l B gM m_Mo_add 390 [some (.ref 53), some (.int (nI A)), some (.int (nI C)), some (.int (nI T)), some (.int (bI less)), some (.long (lI s)), none, some (.long o1), none, some (.long o2), none, some (.int (bI ot)), some (.int (bI al)), some (.int (bI sw)), some (.int (nI x)), some (.int (nI y)), some (.int (nI n)), some (.int (iI c)), some (.int (nI n)), x19] [] (mS t ln sz sc mo be ts us lz pr fa D K Mn Mi Sc (g) tp un lf pa) Q) :
    ∀ (d k : Nat) (g : Nat → Nat) (c : Int) (x19 : Option Value), k + d = n → (∀ j, n - k ≤ j → j < n → g j < 10) → (∀ j, n ≤ j → g j = rw j) → -1 ≤ c → c ≤ 1 → (tv (fun j => g (n - k + j)) k : Int) + c * ((10 ^ k : Nat) : Int) = ((upS (R x) s % 10 ^ k : Nat) : Int) + (if al then ((upS (R y) s % 10 ^ k : Nat) : Int) else -((upS (R y) s % 10 ^ k : Nat) : Int)) → zm_W l B gM m_Mo_add 296 [some (.ref 53), some (.int (nI A)), some (.int (nI C)), some (.int (nI T)), some (.int (bI less)), some (.long (lI s)), none, some (.long o1), none, some (.long o2), none, some (.int (bI ot)), some (.int (bI al)), some (.int (bI sw)), some (.int (nI x)), some (.int (nI y)), some (.int (nI n)), some (.int (iI c)), some (.int (nI k)), x19] [] (mS t ln sz sc mo be ts us lz pr fa D K Mn Mi Sc (g) tp un lf pa) Q := by
  intro d
  induction d with
  | zero =>
    intro k g c x19 hk h1 h2 h3 h4 h5
    have e : k = n := by omega
    subst e
    rw [Nat.sub_self, tv_congr (g := fun j => g (0 + j)) (g' := g) (fun j _ => by rw [Nat.zero_add])] at h5
    refine zm_go (okm_Mo_add hG hl) [390] 200 ?_
    conv => whnf
    refine ⟨fun _ => ?_, fun z => absurd (Int32.le_refl _) z⟩
    refine ⟨?_, trivial⟩
    try dsimp only
    exact hq g c _ (fun j hj => h1 j (by omega) hj) h2 h3 h4 h5
  | succ d ih =>
    intro k g c x19 hk h1 h2 h3 h4 h5
    have xl : upS (R x) s / 10 ^ k % 10 < 10 := Nat.mod_lt _ (by decide)
    have yl : upS (R y) s / 10 ^ k % 10 < 10 := Nat.mod_lt _ (by decide)
    have nxt : ∀ v : Int, v = (upS (R x) s / 10 ^ k % 10 : Nat) + (if al then ((upS (R y) s / 10 ^ k % 10 : Nat) : Int) else -((upS (R y) s / 10 ^ k % 10 : Nat) : Int)) + c → ∀ x18 : Option Value, zm_W l B gM m_Mo_add 346 [some (.ref 53), some (.int (nI A)), some (.int (nI C)), some (.int (nI T)), some (.int (bI less)), some (.long (lI s)), none, some (.long o1), none, some (.long o2), none, some (.int (bI ot)), some (.int (bI al)), some (.int (bI sw)), some (.int (nI x)), some (.int (nI y)), some (.int (nI n)), some (.int (iI c)), some (.int (nI k)), x18] [.int (iI v)] (mS t ln sz sc mo be ts us lz pr fa D K Mn Mi Sc (g) tp un lf pa) Q := by
      intro v hv x18
      have vr : -10 ≤ v ∧ v ≤ 19 := by cases al <;> simp at hv <;> omega
      have rv : iR v := ⟨by omega, by omega⟩
      have key : ∀ (dgt : Nat) (c' : Int) (x19 : Option Value), dgt < 10 → -1 ≤ c' → c' ≤ 1 → v = 10 * c' + dgt → zm_W l B gM m_Mo_add 296 [some (.ref 53), some (.int (nI A)), some (.int (nI C)), some (.int (nI T)), some (.int (bI less)), some (.long (lI s)), none, some (.long o1), none, some (.long o2), none, some (.int (bI ot)), some (.int (bI al)), some (.int (bI sw)), some (.int (nI x)), some (.int (nI y)), some (.int (nI n)), some (.int (iI c')), some (.int (nI (k + 1))), x19] [] (mS t ln sz sc mo be ts us lz pr fa D K Mn Mi Sc (zu g (n - 1 - k) dgt) tp un lf pa) Q := by
        intro dgt c' x19 hd hc1 hc2 hvv
        refine ih (k + 1) _ c' x19 (by omega) (fun j hj1 hj2 => ?_) (fun j hj => by rw [zu_n (by omega)]; exact h2 j hj) hc1 hc2 ?_
        · by_cases q : j = n - 1 - k
          · rw [q, zu_s]; exact hd
          · rw [zu_n q]; exact h1 j (by omega) hj2
        · have e1 : tv (fun j => zu g (n - 1 - k) dgt (n - (k + 1) + j)) (k + 1) = dgt * 10 ^ k + tv (fun j => g (n - k + j)) k := by
            rw [tv_first]
            congr 1
            · rw [Nat.add_zero, show n - (k + 1) = n - 1 - k by omega, zu_s]
            · exact tv_congr (fun j hj => by rw [zu_n (by omega)]; congr 1; omega)
          rw [e1, mod_step, mod_step (upS (R y) s), Nat.pow_succ]
          have e2 : (v : Int) * ((10 ^ k : Nat) : Int) = (10 * c' + dgt) * ((10 ^ k : Nat) : Int) := by rw [← hvv]
          rw [hv, Int.add_mul, Int.add_mul, Int.add_mul] at e2
          simp only [Int.natCast_add, Int.natCast_mul] at *
          generalize ((10 ^ k : Nat) : Int) = P at *
          have e3 : c' * (P * ((10 : Nat) : Int)) = 10 * c' * P := by
            rw [Int.mul_comm P, ← Int.mul_assoc, Int.mul_comm c']
            rfl
          rw [e3]
          cases al
          · simp only [Bool.false_eq_true, if_false] at *
            rw [Int.neg_mul] at e2
            omega
          · simp only [if_true] at *
            omega
      refine zm_go (okm_Mo_add hG hl) [296] 200 ?_
      conv => whnf
      rw [show iI v + 10 = nI (v + 10).toNat by rw [iI_nI]; show _ + iI 10 = _; rw [iI_add]; congr 1; omega, show (10 : Int32) = nI 10 from rfl, nI_rm (by omega) (by decide) (by decide), show nI n - 1 - nI k = nI (n - 1 - k) by rw [show (1 : Int32) = nI 1 from rfl, nI_sub (by omega), nI_sub (by omega)]]
      refine ⟨by decide, ?_⟩
      conv => whnf
      refine ⟨(n - 1 - k), rfl, by omega, ?_⟩
      conv => whnf
      by_cases hneg : v < 0
      · refine ⟨fun z => absurd ((iI_le (a := 0) ⟨by decide, by decide⟩ rv).mp z) (by omega), fun _ => ?_⟩
        conv => whnf
        refine ⟨?_, trivial⟩
        try dsimp only
        rw [nI_1]
        rw [upd_nI]
        exact key ((v + 10).toNat % 10) (-1) _ (by omega) (by decide) (by decide) (by omega)
      · refine ⟨fun _ => ?_, fun z => absurd ((iI_le (a := 0) ⟨by decide, by decide⟩ rv).mpr (by omega)) z⟩
        conv => whnf
        refine ⟨by decide, ?_⟩
        conv => whnf
        refine ⟨?_, trivial⟩
        try dsimp only
        have hdv : iI v / 10 = iI (v / 10) := by
          show iI v / iI 10 = _
          exact iI_div rv (by omega) ⟨by decide, by decide⟩ (by decide)
        rw [nI_1, hdv]
        rw [upd_nI]
        exact key ((v + 10).toNat % 10) (v / 10) _ (by omega) (by omega) (by omega) (by omega)
    refine zm_go (okm_Mo_add hG hl) [346] 200 ?_
    conv => whnf
    refine ⟨fun z => absurd ((nI_ge0 (by omega) (by omega)).mp z) (by omega), fun _ => ?_⟩
    conv => whnf
    refine k_figure hG hl hR hM lx (by omega) hsx hs2 ?_
    conv => whnf
    cases al
    · refine ⟨fun _ => ?_, fun z => absurd rfl z⟩
      conv => whnf
      refine k_figure hG hl hR hM ly (by omega) hsy hs2 ?_
      conv => whnf
      refine ⟨?_, trivial⟩
      try dsimp only
      rw [iI_nI (upS (R x) s / 10 ^ k % 10), iI_nI (upS (R y) s / 10 ^ k % 10), iI_neg, iI_add, iI_add]
      exact nxt _ (by simp) _
    · refine ⟨fun z => absurd z (by decide), fun _ => ?_⟩
      conv => whnf
      refine k_figure hG hl hR hM ly (by omega) hsy hs2 ?_
      conv => whnf
      refine ⟨?_, trivial⟩
      try dsimp only
      rw [iI_nI (upS (R x) s / 10 ^ k % 10), iI_nI (upS (R y) s / 10 ^ k % 10), iI_add, iI_add]
      exact nxt _ (by simp) _
theorem up_dg {x : zr} {s : Int} (hx : x.2.2 ≤ s) : (dg (upS x s) : Int) = if x.2.1 = 0 then 1 else (dg x.2.1 : Int) + s - x.2.2 := by
  split
  · rename_i h
    unfold upS
    rw [h, Nat.zero_mul, dg_0]; rfl
  · rename_i h
    have : dg (upS x s) = dg x.2.1 + (s - x.2.2).toNat := dg_mul_pow h _
    omega
set_option maxRecDepth 4000 in
theorem w_add77 (hG : zd_G B) (hl : l.stackTraces = false) {R : Nat → zr} (hR : ROk R) (hM : MR R K Mn Mi Sc) {A C T : Nat} {s : Int} {less : Bool} (la : A < 10) (lb : C < 10) (lt : T < 10) (hs : s = max (R A).2.2 (R C).2.2) (hd : ∀ i, rw i < 10)
    (hq : Res Q R T 0 ln pr 2 D pa K Mn Mi Sc (sp_addV (R A) (R C) less).1 (some ((sp_addV (R A) (R C) less).2, s))) : zm_W l B gM m_Mo_add 77 [some (.ref 53), some (.int (nI A)), some (.int (nI C)), some (.int (nI T)), some (.int (bI less)), some (.long (lI s)), none, none, none, none, none, none, none, none, none, none, none, none, none, none] [] (mS (0) ln sz sc mo be ts us lz pr (2) D K Mn Mi Sc rw tp un lf pa) Q := by
  obtain ⟨ma, ka, na, sa⟩ := hM.2 A la
  obtain ⟨mb, kb, nb, sb⟩ := hM.2 C lb
  obtain ⟨ra, ra2, ra3, ra4⟩ := hR A la
  obtain ⟨rb, rb2, rb3, rb4⟩ := hR C lb
  have hsA : (R A).2.2 ≤ s := by omega
  have hsC : (R C).2.2 ≤ s := by omega
  have hs2 : s ≤ 10000 := by omega
  have hs1 : -10000 ≤ s := by omega
  have uA := up_dg hsA
  have uC := up_dg hsC
  have pA := dg_pos (upS (R A) s)
  have pC := dg_pos (upS (R C) s)
  have pa1 := dg_pos (R A).2.1
  have pb1 := dg_pos (R C).2.1
  have bA : (dg (upS (R A) s) : Int) ≤ 21000 := by rw [uA]; split <;> omega
  have bC : (dg (upS (R C) s) : Int) ≤ 21000 := by rw [uC]; split <;> omega
  obtain ⟨q1, q2⟩ := a_eq (x := R A) (y := R C) (less := less) ra4
  rw [← hs] at q1 q2
  have zA : upS (R A) s = 0 ↔ (R A).2.1 = 0 := by
    unfold upS
    rw [Nat.mul_eq_zero]
    exact ⟨fun h => h.resolve_right (Nat.ne_of_gt (pow10_pos _)), Or.inl⟩
  have small : ¬ (1001 < dg (upS (R A) s) ∨ 1001 < dg (upS (R C) s)) → zm_W l B gM m_Mo_add 225 [some (.ref 53), some (.int (nI A)), some (.int (nI C)), some (.int (nI T)), some (.int (bI less)), some (.long (lI s)), none, some (.long (lI (dg (upS (R A) s) : Int))), none, some (.long (lI (dg (upS (R C) s) : Int))), none, some (.int (bI (a_ot (R C) less))), some (.int (bI (a_al (R A) (R C) less))), none, none, none, none, none, none, none] [] (mS (0) ln sz sc mo be ts us lz pr (2) D K Mn Mi Sc rw tp un lf pa) Q := by
    intro hsm
    have hn1 : dg (upS (R A) s) ≤ max (dg (upS (R A) s)) (dg (upS (R C) s)) := by omega
    have hn2 : dg (upS (R C) s) ≤ max (dg (upS (R A) s)) (dg (upS (R C) s)) := by omega
    have lA : upS (R A) s < 10 ^ max (dg (upS (R A) s)) (dg (upS (R C) s)) := Nat.lt_of_lt_of_le (dg_lt _) (Nat.pow_le_pow_right (by decide) hn1)
    have lC : upS (R C) s < 10 ^ max (dg (upS (R A) s)) (dg (upS (R C) s)) := Nat.lt_of_lt_of_le (dg_lt _) (Nat.pow_le_pow_right (by decide) hn2)
    have aft : ∀ (x y : Nat), x = (if a_sw (R A) (R C) less s then C else A) → y = (if a_sw (R A) (R C) less s then A else C) → x < 10 → y < 10 → zm_W l B gM m_Mo_add 270 [some (.ref 53), some (.int (nI A)), some (.int (nI C)), some (.int (nI T)), some (.int (bI less)), some (.long (lI s)), none, some (.long (lI (dg (upS (R A) s) : Int))), none, some (.long (lI (dg (upS (R C) s) : Int))), none, some (.int (bI (a_ot (R C) less))), some (.int (bI (a_al (R A) (R C) less))), some (.int (bI (a_sw (R A) (R C) less s))), some (.int (nI x)), some (.int (nI y)), none, none, none, none] [] (mS (0) ln sz sc mo be ts us lz pr (2) D K Mn Mi Sc rw tp un lf pa) Q := by
      intro x y ex ey lx ly
      have sx : (R x).2.2 ≤ s := by rw [ex]; split <;> assumption
      have sy : (R y).2.2 ≤ s := by rw [ey]; split <;> assumption
      have loop : zm_W l B gM m_Mo_add 296 [some (.ref 53), some (.int (nI A)), some (.int (nI C)), some (.int (nI T)), some (.int (bI less)), some (.long (lI s)), none, some (.long (lI (dg (upS (R A) s) : Int))), none, some (.long (lI (dg (upS (R C) s) : Int))), none, some (.int (bI (a_ot (R C) less))), some (.int (bI (a_al (R A) (R C) less))), some (.int (bI (a_sw (R A) (R C) less s))), some (.int (nI x)), some (.int (nI y)), some (.int (nI (max (dg (upS (R A) s)) (dg (upS (R C) s)) + 1))), some (.int (iI 0)), some (.int (nI 0)), none] [] (mS (0) ln sz sc mo be ts us lz pr (2) D K Mn Mi Sc rw tp un lf pa) Q := by
        refine w_add296 (n := max (dg (upS (R A) s)) (dg (upS (R C) s)) + 1) hG hl hR hM lx ly (by omega) sx sy hs2 (fun g c x19 g1 g2 c1 c2 hv => ?_) (max (dg (upS (R A) s)) (dg (upS (R C) s)) + 1) 0 rw 0 none (by omega) (fun j h1 h2 => by omega) (fun j _ => rfl) (by decide) (by decide) (by simp [tv, Nat.mod_one])
        have hval : tv g (max (dg (upS (R A) s)) (dg (upS (R C) s)) + 1) = a_V (R A) (R C) less s := by
          have tl := tv_lt g1
          have px : 10 ^ (max (dg (upS (R A) s)) (dg (upS (R C) s)) + 1) = 10 ^ max (dg (upS (R A) s)) (dg (upS (R C) s)) * 10 := Nat.pow_succ _ _
          have xl : upS (R x) s < 10 ^ max (dg (upS (R A) s)) (dg (upS (R C) s)) := by rw [ex]; split <;> assumption
          have yl : upS (R y) s < 10 ^ max (dg (upS (R A) s)) (dg (upS (R C) s)) := by rw [ey]; split <;> assumption
          rw [Nat.mod_eq_of_lt (by omega), Nat.mod_eq_of_lt (by omega)] at hv
          have hc : c = -1 ∨ c = 0 ∨ c = 1 := by omega
          unfold a_V
          cases hal : a_al (R A) (R C) less
          · rw [hal] at hv
            simp only [Bool.false_eq_true, if_false] at hv ⊢
            have hge : upS (R y) s ≤ upS (R x) s := by
              rw [ex, ey]
              unfold a_sw
              rw [hal]
              by_cases h : upS (R A) s < upS (R C) s
              · simp [h]; omega
              · simp [h]; omega
            have : tv g (max (dg (upS (R A) s)) (dg (upS (R C) s)) + 1) = upS (R x) s - upS (R y) s := by
              rcases hc with e | e | e <;> subst e <;> omega
            rw [this, ex, ey]
            cases a_sw (R A) (R C) less s <;> rfl
          · rw [hal] at hv
            simp only [if_true] at hv ⊢
            have hsw : a_sw (R A) (R C) less s = false := by unfold a_sw; rw [hal]; rfl
            rw [hsw] at ex ey
            have : tv g (max (dg (upS (R A) s)) (dg (upS (R C) s)) + 1) = upS (R x) s + upS (R y) s := by
              rcases hc with e | e | e <;> subst e <;> omega
            rw [this, ex, ey]
            rfl
        have g3 : ∀ i, g i < 10 := fun i => by
          by_cases q : i < max (dg (upS (R A) s)) (dg (upS (R C) s)) + 1
          · exact g1 i q
          · rw [g2 i (by omega)]; exact hd i
        have last : zm_W l B gM m_Mo_add 454 [some (.ref 53), some (.int (nI A)), some (.int (nI C)), some (.int (nI T)), some (.int (bI less)), some (.long (lI s)), none, some (.long (lI (dg (upS (R A) s) : Int))), none, some (.long (lI (dg (upS (R C) s) : Int))), none, some (.int (bI (a_ot (R C) less))), some (.int (bI (a_al (R A) (R C) less))), some (.int (bI (a_sw (R A) (R C) less s))), some (.int (nI x)), some (.int (nI y)), some (.int (nI (max (dg (upS (R A) s)) (dg (upS (R C) s)) + 1))), some (.int (iI c)), some (.int (nI (max (dg (upS (R A) s)) (dg (upS (R C) s)) + 1))), x19] [.int (bI (a_be (R A) (R C) less s)), .ref 53] (mS (0) ln (max (dg (upS (R A) s)) (dg (upS (R C) s)) + 1) (s) (false) be ts us lz pr (2) D K Mn Mi Sc (g) tp un lf pa) Q := by
          refine zm_go (okm_Mo_add hG hl) [] 200 ?_
          conv => whnf
          refine ⟨(a_be (R A) (R C) less s), rfl, ?_⟩
          conv => whnf
          refine k_storeA hG hl hR hM lt (by omega) g3 (by omega) ?_
          rw [hval, q1]
          refine (hq.sg (fun V s2 e => ?_)).imp (fun m hm => ?_)
          · rw [fin_some] at e
            split at e
            · cases e
              rw [← q1]
              exact q2.symm
            · cases e
          · conv => whnf
            exact ⟨hm, trivial⟩
        unfold a_be at last
        refine zm_go (okm_Mo_add hG hl) [454] 200 ?_
        conv => whnf
        refine ⟨false, rfl, ?_⟩
        conv => whnf
        refine k_isZero hG hl hM la ?_
        conv => whnf
        by_cases ez : (R A).2.1 = 0
        · rw [if_pos ez] at last
          rw [decide_eq_true ez]
          refine ⟨fun z => absurd z (by decide), fun _ => ?_⟩
          conv => whnf
          refine ⟨?_, trivial⟩
          try dsimp only
          exact last
        · rw [if_neg ez] at last
          rw [decide_eq_false ez]
          refine ⟨fun _ => ?_, fun z => absurd rfl z⟩
          conv => whnf
          refine k_isZero hG hl hM lb ?_
          conv => whnf
          by_cases ey0 : (R C).2.1 = 0
          · rw [if_pos ey0, ← na] at last
            rw [decide_eq_true ey0]
            refine ⟨fun z => absurd z (by decide), fun _ => ?_⟩
            conv => whnf
            refine ⟨A, rfl, by omega, ?_⟩
            conv => whnf
            refine ⟨?_, trivial⟩
            try dsimp only
            exact last
          · rw [if_neg ey0] at last
            rw [decide_eq_false ey0]
            refine ⟨fun _ => ?_, fun z => absurd rfl z⟩
            conv => whnf
            cases hsw : a_sw (R A) (R C) less s
            · rw [hsw, if_neg (by decide), ← na] at last
              refine ⟨fun _ => ?_, fun z => absurd rfl z⟩
              conv => whnf
              refine ⟨A, rfl, by omega, ?_⟩
              conv => whnf
              refine ⟨?_, trivial⟩
              try dsimp only
              exact last
            · rw [hsw, if_pos rfl] at last
              refine ⟨fun z => absurd z (by decide), fun _ => ?_⟩
              conv => whnf
              refine ⟨?_, trivial⟩
              try dsimp only
              exact last
      refine zm_go (okm_Mo_add hG hl) [296] 200 ?_
      conv => whnf
      by_cases hle : dg (upS (R A) s) ≤ dg (upS (R C) s)
      · rw [show max (dg (upS (R A) s)) (dg (upS (R C) s)) = dg (upS (R C) s) by omega] at loop
        refine ⟨fun _ => ?_, fun z => absurd ((lg_cmp_le _ _).mpr ((lI_le ⟨by omega, by omega⟩ ⟨by omega, by omega⟩).mpr (by omega))) z⟩
        conv => whnf
        refine ⟨?_, trivial⟩
        try dsimp only
        rw [lI_i, ← iI_nI, nI_1]
        exact loop
      · rw [show max (dg (upS (R A) s)) (dg (upS (R C) s)) = dg (upS (R A) s) by omega] at loop
        refine ⟨fun z => absurd ((lI_le ⟨by omega, by omega⟩ ⟨by omega, by omega⟩).mp ((lg_cmp_le _ _).mp z)) (by omega), fun _ => ?_⟩
        conv => whnf
        refine ⟨?_, trivial⟩
        try dsimp only
        rw [lI_i, ← iI_nI, nI_1]
        exact loop
    have sel : zm_W l B gM m_Mo_add 246 [some (.ref 53), some (.int (nI A)), some (.int (nI C)), some (.int (nI T)), some (.int (bI less)), some (.long (lI s)), none, some (.long (lI (dg (upS (R A) s) : Int))), none, some (.long (lI (dg (upS (R C) s) : Int))), none, some (.int (bI (a_ot (R C) less))), some (.int (bI (a_al (R A) (R C) less))), some (.int (bI (a_sw (R A) (R C) less s))), none, none, none, none, none, none] [] (mS (0) ln sz sc mo be ts us lz pr (2) D K Mn Mi Sc rw tp un lf pa) Q := by
      cases hsw : a_sw (R A) (R C) less s
      · have a := aft A C (by rw [hsw]; rfl) (by rw [hsw]; rfl) la lb
        rw [hsw] at a
        refine zm_go (okm_Mo_add hG hl) [270] 200 ?_
        conv => whnf
        refine ⟨fun _ => ?_, fun z => absurd rfl z⟩
        conv => whnf
        refine ⟨fun _ => ?_, fun z => absurd rfl z⟩
        conv => whnf
        refine ⟨?_, trivial⟩
        try dsimp only
        exact a
      · have a := aft C A (by rw [hsw]; rfl) (by rw [hsw]; rfl) lb la
        rw [hsw] at a
        refine zm_go (okm_Mo_add hG hl) [270] 200 ?_
        conv => whnf
        refine ⟨fun z => absurd z (by decide), fun _ => ?_⟩
        conv => whnf
        refine ⟨fun z => absurd z (by decide), fun _ => ?_⟩
        conv => whnf
        refine ⟨?_, trivial⟩
        try dsimp only
        exact a
    unfold a_sw at sel
    refine zm_go (okm_Mo_add hG hl) [246] 200 ?_
    conv => whnf
    cases hal : a_al (R A) (R C) less
    · rw [hal] at sel
      have hz2 : (R A).2.1 ≠ 0 ∧ (R C).2.1 ≠ 0 := by
        unfold a_al at hal
        simp at hal
        exact ⟨hal.1, hal.2.1⟩
      refine ⟨fun z => absurd rfl z, fun _ => ?_⟩
      conv => whnf
      refine k_compareSizes hG hl hR hM la lb hz2.1 hz2.2 ?_
      rw [← hs]
      conv => whnf
      by_cases h : upS (R C) s ≤ upS (R A) s
      · rw [decide_eq_false (by omega)] at sel
        refine ⟨fun _ => ?_, fun z => absurd (cmpN_neg.mpr h) z⟩
        conv => whnf
        refine ⟨?_, trivial⟩
        try dsimp only
        exact sel
      · rw [decide_eq_true (by omega)] at sel
        refine ⟨fun z => absurd (cmpN_neg.mp z) h, fun _ => ?_⟩
        conv => whnf
        refine ⟨?_, trivial⟩
        try dsimp only
        exact sel
    · rw [hal] at sel
      refine ⟨fun _ => ?_, fun z => absurd z (by decide)⟩
      conv => whnf
      refine ⟨?_, trivial⟩
      try dsimp only
      exact sel
  have alk : ¬ (1001 < dg (upS (R A) s) ∨ 1001 < dg (upS (R C) s)) → zm_W l B gM m_Mo_add 191 [some (.ref 53), some (.int (nI A)), some (.int (nI C)), some (.int (nI T)), some (.int (bI less)), some (.long (lI s)), none, some (.long (lI (dg (upS (R A) s) : Int))), none, some (.long (lI (dg (upS (R C) s) : Int))), none, some (.int (bI (a_ot (R C) less))), none, none, none, none, none, none, none, none] [] (mS (0) ln sz sc mo be ts us lz pr (2) D K Mn Mi Sc rw tp un lf pa) Q := by
    intro hsm
    have sm := small hsm
    unfold a_al at sm
    refine zm_go (okm_Mo_add hG hl) [225] 200 ?_
    conv => whnf
    refine k_isZero hG hl hM la ?_
    conv => whnf
    by_cases ez : (R A).2.1 = 0
    · rw [decide_eq_true ez] at sm ⊢
      refine ⟨fun _ => ?_, fun z => absurd z (by decide)⟩
      conv => whnf
      refine ⟨?_, trivial⟩
      try dsimp only
      exact sm
    · rw [decide_eq_false ez] at sm ⊢
      refine ⟨fun z => absurd rfl z, fun _ => ?_⟩
      conv => whnf
      refine k_isZero hG hl hM lb ?_
      conv => whnf
      by_cases ey0 : (R C).2.1 = 0
      · rw [decide_eq_true ey0] at sm ⊢
        refine ⟨fun _ => ?_, fun z => absurd z (by decide)⟩
        conv => whnf
        refine ⟨?_, trivial⟩
        try dsimp only
        exact sm
      · rw [decide_eq_false ey0] at sm ⊢
        refine ⟨fun z => absurd rfl z, fun _ => ?_⟩
        conv => whnf
        refine ⟨A, rfl, by omega, ?_⟩
        conv => whnf
        dsimp only
        rw [na]
        generalize a_ot (R C) less = o at sm ⊢
        generalize (R A).1 = p at sm ⊢
        cases p <;> cases o
        · refine ⟨fun z => absurd rfl z, fun _ => ?_⟩
          conv => whnf
          refine ⟨?_, trivial⟩
          try dsimp only
          exact sm
        · refine ⟨fun _ => ?_, fun z => absurd z (by decide)⟩
          conv => whnf
          refine ⟨?_, trivial⟩
          try dsimp only
          exact sm
        · refine ⟨fun _ => ?_, fun z => absurd z (by decide)⟩
          conv => whnf
          refine ⟨?_, trivial⟩
          try dsimp only
          exact sm
        · refine ⟨fun z => absurd rfl z, fun _ => ?_⟩
          conv => whnf
          refine ⟨?_, trivial⟩
          try dsimp only
          exact sm
  have oth : ¬ (1001 < dg (upS (R A) s) ∨ 1001 < dg (upS (R C) s)) → zm_W l B gM m_Mo_add 165 [some (.ref 53), some (.int (nI A)), some (.int (nI C)), some (.int (nI T)), some (.int (bI less)), some (.long (lI s)), none, some (.long (lI (dg (upS (R A) s) : Int))), none, some (.long (lI (dg (upS (R C) s) : Int))), none, none, none, none, none, none, none, none, none, none] [] (mS (0) ln sz sc mo be ts us lz pr (2) D K Mn Mi Sc rw tp un lf pa) Q := by
    intro hsm
    have sm := alk hsm
    unfold a_ot at sm
    refine zm_go (okm_Mo_add hG hl) [191] 200 ?_
    conv => whnf
    refine k_isZero hG hl hM lb ?_
    conv => whnf
    by_cases ey0 : (R C).2.1 = 0
    · rw [decide_eq_true ey0]
      rw [show decide ((R C).2.1 ≠ 0) = false by simp [ey0]] at sm
      refine ⟨fun _ => ?_, fun z => absurd z (by decide)⟩
      conv => whnf
      refine ⟨?_, trivial⟩
      try dsimp only
      exact sm
    · rw [decide_eq_false ey0]
      rw [show decide ((R C).2.1 ≠ 0) = true by simp [ey0]] at sm
      refine ⟨fun z => absurd rfl z, fun _ => ?_⟩
      conv => whnf
      refine ⟨C, rfl, by omega, ?_⟩
      conv => whnf
      dsimp only
      rw [nb]
      generalize (R C).1 = p at sm ⊢
      clear small alk q1 q2 hq
      cases p <;> cases less
      · refine ⟨fun _ => ?_, fun z => absurd rfl z⟩
        conv => whnf
        refine ⟨?_, trivial⟩
        try dsimp only
        exact sm
      · refine ⟨fun z => absurd z (by decide), fun _ => ?_⟩
        conv => whnf
        refine ⟨?_, trivial⟩
        try dsimp only
        exact sm
      · refine ⟨fun z => absurd z (by decide), fun _ => ?_⟩
        conv => whnf
        refine ⟨?_, trivial⟩
        try dsimp only
        exact sm
      · refine ⟨fun _ => ?_, fun z => absurd rfl z⟩
        conv => whnf
        refine ⟨?_, trivial⟩
        try dsimp only
        exact sm
  have len : zm_W l B gM m_Mo_add 141 [some (.ref 53), some (.int (nI A)), some (.int (nI C)), some (.int (nI T)), some (.int (bI less)), some (.long (lI s)), none, some (.long (lI (dg (upS (R A) s) : Int))), none, some (.long (lI (dg (upS (R C) s) : Int))), none, none, none, none, none, none, none, none, none, none] [] (mS (0) ln sz sc mo be ts us lz pr (2) D K Mn Mi Sc rw tp un lf pa) Q := by
    have bad : (1001 < dg (upS (R A) s) ∨ 1001 < dg (upS (R C) s)) → zm_W l B gM m_Mo_add 159 [some (.ref 53), some (.int (nI A)), some (.int (nI C)), some (.int (nI T)), some (.int (bI less)), some (.long (lI s)), none, some (.long (lI (dg (upS (R A) s) : Int))), none, some (.long (lI (dg (upS (R C) s) : Int))), none, none, none, none, none, none, none, none, none, none] [] (mS (0) ln sz sc mo be ts us lz pr (2) D K Mn Mi Sc rw tp un lf pa) Q := by
      intro hb
      refine zm_go (okm_Mo_add hG hl) [] 200 ?_
      conv => whnf
      refine ⟨hq.2 ?_ _ _ _ _ _ _ _ _ _ _ _ hd, trivial⟩
      have := add_long (x := R A) (y := R C) (less := less) ra rb (by rw [← hs]; exact hb)
      rw [fin_some, if_neg (fun w => by omega)]
    refine zm_go (okm_Mo_add hG hl) [159, 165] 200 ?_
    conv => whnf
    by_cases h1 : 1001 < dg (upS (R A) s)
    · refine ⟨fun _ => ?_, fun z => absurd ((cmp_gt _ _).mpr ((lI_lt (a := 1001) ⟨by decide, by decide⟩ ⟨by omega, by omega⟩).mpr (by omega))) z⟩
      refine ⟨?_, trivial⟩
      try dsimp only
      exact bad (Or.inl h1)
    · refine ⟨fun z => absurd ((lI_lt (a := 1001) ⟨by decide, by decide⟩ ⟨by omega, by omega⟩).mp ((cmp_gt _ _).mp z)) (by omega), fun _ => ?_⟩
      conv => whnf
      by_cases h2 : 1001 < dg (upS (R C) s)
      · refine ⟨fun z => absurd ((lI_le (b := 1001) ⟨by omega, by omega⟩ ⟨by decide, by decide⟩).mp ((lg_cmp_le _ _).mp z)) (by omega), fun _ => ?_⟩
        refine ⟨?_, trivial⟩
        try dsimp only
        exact bad (Or.inr h2)
      · refine ⟨fun _ => ?_, fun z => absurd ((lg_cmp_le _ _).mpr ((lI_le (b := 1001) ⟨by omega, by omega⟩ ⟨by decide, by decide⟩).mpr (by omega))) z⟩
        refine ⟨?_, trivial⟩
        try dsimp only
        exact oth (by omega)
  have two : zm_W l B gM m_Mo_add 109 [some (.ref 53), some (.int (nI A)), some (.int (nI C)), some (.int (nI T)), some (.int (bI less)), some (.long (lI s)), none, some (.long (lI (dg (upS (R A) s) : Int))), none, none, none, none, none, none, none, none, none, none, none, none] [] (mS (0) ln sz sc mo be ts us lz pr (2) D K Mn Mi Sc rw tp un lf pa) Q := by
    rw [uC] at len
    refine zm_go (okm_Mo_add hG hl) [141] 200 ?_
    conv => whnf
    refine k_isZero hG hl hM lb ?_
    conv => whnf
    by_cases ey0 : (R C).2.1 = 0
    · rw [if_pos ey0] at len
      rw [decide_eq_true ey0]
      refine ⟨fun z => absurd z (by decide), fun _ => ?_⟩
      conv => whnf
      refine ⟨?_, trivial⟩
      try dsimp only
      exact len
    · rw [if_neg ey0] at len
      rw [decide_eq_false ey0]
      refine ⟨fun _ => ?_, fun z => absurd rfl z⟩
      conv => whnf
      refine ⟨C, rfl, by omega, ?_⟩
      conv => whnf
      refine ⟨C, rfl, by omega, ?_⟩
      conv => whnf
      refine ⟨?_, trivial⟩
      try dsimp only
      rw [mb, sb, iI_nI (dg (R C).2.1), iI_l ⟨by omega, by omega⟩, iI_l ⟨by omega, by omega⟩, lI_add, lI_sub]
      exact len
  rw [uA] at two
  refine zm_go (okm_Mo_add hG hl) [109] 200 ?_
  conv => whnf
  refine k_isZero hG hl hM la ?_
  conv => whnf
  by_cases ey0 : (R A).2.1 = 0
  · rw [if_pos ey0] at two
    rw [decide_eq_true ey0]
    refine ⟨fun z => absurd z (by decide), fun _ => ?_⟩
    conv => whnf
    refine ⟨?_, trivial⟩
    try dsimp only
    exact two
  · rw [if_neg ey0] at two
    rw [decide_eq_false ey0]
    refine ⟨fun _ => ?_, fun z => absurd rfl z⟩
    conv => whnf
    refine ⟨A, rfl, by omega, ?_⟩
    conv => whnf
    refine ⟨A, rfl, by omega, ?_⟩
    conv => whnf
    refine ⟨?_, trivial⟩
    try dsimp only
    rw [ma, sa, iI_nI (dg (R A).2.1), iI_l ⟨by omega, by omega⟩, iI_l ⟨by omega, by omega⟩, lI_add, lI_sub]
    exact two
theorem k_add (hG : zd_G B) (hl : l.stackTraces = false) {R : Nat → zr} (hR : ROk R) (hM : MR R K Mn Mi Sc) {a b to : Int} {less : Bool} (ha : iR a) (hb2 : iR b) (hto : iR to) (hd : ∀ i, rw i < 10)
    (hb : ((a < 0 ∨ 10 ≤ a) ∨ (b < 0 ∨ 10 ≤ b) ∨ (to < 0 ∨ 10 ≤ to)) → Q none (mS (1) ln sz sc mo be ts us lz pr fa D K Mn Mi Sc rw tp un lf pa))
    (hq : ∀ A C T : Nat, a = A → b = C → to = T → A < 10 → C < 10 → T < 10 → Res Q R T 0 ln pr 2 D pa K Mn Mi Sc (sp_addV (R A) (R C) less).1 (some ((sp_addV (R A) (R C) less).2, max (R A).2.2 (R C).2.2))) : zm_M l B gM m_Mo_add [.ref 53, .int (iI a), .int (iI b), .int (iI to), .int (bI less)] (mS t ln sz sc mo be ts us lz pr fa D K Mn Mi Sc rw tp un lf pa) Q := by
  have bad : ((a < 0 ∨ 10 ≤ a) ∨ (b < 0 ∨ 10 ≤ b) ∨ (to < 0 ∨ 10 ≤ to)) → zm_W l B gM m_Mo_add 22 [some (.ref 53), some (.int (iI a)), some (.int (iI b)), some (.int (iI to)), some (.int (bI less)), none, none, none, none, none, none, none, none, none, none, none, none, none, none, none] [.ref 53] (mS t ln sz sc mo be ts us lz pr fa D K Mn Mi Sc rw tp un lf pa) Q := by
    intro hc
    refine zm_go (okm_Mo_add hG hl) [] 200 ?_
    conv => whnf
    refine ⟨fun z => absurd z (by decide), fun _ => ?_⟩
    conv => whnf
    exact ⟨hb hc, trivial⟩
  refine zm_go (okm_Mo_add hG hl) [22, 77] 200 ?_
  conv => whnf
  refine k_no hG hl ha ?_
  by_cases ca : a < 0 ∨ 10 ≤ a
  · rw [decide_eq_true ca]
    conv => whnf
    refine ⟨fun _ => ?_, fun z => absurd z (by decide)⟩
    refine ⟨?_, trivial⟩
    try dsimp only
    exact bad (Or.inl ca)
  · rw [decide_eq_false ca]
    conv => whnf
    refine ⟨fun z => absurd rfl z, fun _ => ?_⟩
    conv => whnf
    refine k_no hG hl hb2 ?_
    by_cases cb : b < 0 ∨ 10 ≤ b
    · rw [decide_eq_true cb]
      conv => whnf
      refine ⟨fun _ => ?_, fun z => absurd z (by decide)⟩
      refine ⟨?_, trivial⟩
      try dsimp only
      exact bad (Or.inr (Or.inl cb))
    · rw [decide_eq_false cb]
      conv => whnf
      refine ⟨fun z => absurd rfl z, fun _ => ?_⟩
      conv => whnf
      refine k_no hG hl hto ?_
      by_cases cto : to < 0 ∨ 10 ≤ to
      · rw [decide_eq_true cto]
        conv => whnf
        refine ⟨fun z => absurd z (by decide), fun _ => ?_⟩
        refine ⟨?_, trivial⟩
        try dsimp only
        exact bad (Or.inr (Or.inr cto))
      · rw [decide_eq_false cto]
        conv => whnf
        refine ⟨fun _ => ?_, fun z => absurd rfl z⟩
        conv => whnf
        obtain ⟨A, ea, la⟩ := iI_of_nat ca
        obtain ⟨C, eb, lb⟩ := iI_of_nat cb
        obtain ⟨T, et, lt⟩ := iI_of_nat cto
        have hqq := hq A C T ea eb et la lb lt
        subst ea
        subst eb
        subst et
        rw [← iI_nI, ← iI_nI, ← iI_nI]
        obtain ⟨ma, ka, na, sa⟩ := hM.2 A la
        obtain ⟨mb, kb, nb, sb⟩ := hM.2 C lb
        obtain ⟨ra, ra2, ra3, -⟩ := hR A la
        obtain ⟨rb, rb2, rb3, -⟩ := hR C lb
        refine ⟨fun _ => ?_, fun z => absurd (by decide) z⟩
        conv => whnf
        have w := w_add77 (Q := Q) (ln := ln) (sz := sz) (sc := sc) (mo := mo) (be := be) (ts := ts) (us := us) (lz := lz) (pr := pr) (D := D) (tp := tp) (un := un) (lf := lf) (pa := pa) hG hl hR hM la lb lt rfl hd hqq
        refine ⟨A, rfl, by omega, ?_⟩
        conv => whnf
        refine ⟨C, rfl, by omega, ?_⟩
        conv => whnf
        dsimp only
        rw [sa, sb]
        by_cases hle : (R A).2.2 ≤ (R C).2.2
        · refine ⟨fun _ => ?_, fun z => absurd ((iI_le ⟨by omega, by omega⟩ ⟨by omega, by omega⟩).mpr hle) z⟩
          conv => whnf
          refine ⟨C, rfl, by omega, ?_⟩
          conv => whnf
          refine ⟨?_, trivial⟩
          try dsimp only
          rw [sb, iI_l ⟨by omega, by omega⟩]
          rw [show max (R A).2.2 (R C).2.2 = (R C).2.2 by omega] at w
          exact w
        · refine ⟨fun z => absurd ((iI_le ⟨by omega, by omega⟩ ⟨by omega, by omega⟩).mp z) hle, fun _ => ?_⟩
          conv => whnf
          refine ⟨A, rfl, by omega, ?_⟩
          conv => whnf
          refine ⟨?_, trivial⟩
          try dsimp only
          rw [sa, iI_l ⟨by omega, by omega⟩]
          rw [show max (R A).2.2 (R C).2.2 = (R A).2.2 by omega] at w
          exact w
end KW

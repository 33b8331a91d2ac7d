/-! the model: compare, told, put and the like -/
def sgn (x : zr) : Int := if x.2.1 = 0 then 0 else if x.1 then -1 else 1
def cmpI (a b : Int) : Int32 := if a < b then -1 else if a = b then 0 else 1
def sp_cmp (x y : zr) : Int32 := if sgn x ≠ sgn y ∨ sgn x = 0 then cmpI (sgn x) (sgn y) else iI (sgn x) * cmpN (upS x (max x.2.2 y.2.2)) (upS y (max x.2.2 y.2.2))
def sp_told (x : zr) (w : Nat) : Int32 := if w = 0 then iI (sgn x) else if w = 1 then iI x.2.2 else if w = 2 then nI (dg x.2.1) else nI (td x.2.1 (dg x.2.1) (w - 3))
theorem sgn_r (x : zr) : iR (sgn x) := by
  unfold sgn
  split
  · exact ⟨by decide, by decide⟩
  · split <;> exact ⟨by decide, by decide⟩
section KJ
variable {l : Launch} {B : zd_B} {Q : Option Value → zst → Prop} {t ln sz : Nat} {sc : Int} {mo be : Bool} {ts us lz pr fa : Nat} {D K Mn : Nat → Nat} {Mi : Nat → Bool} {Sc : Nat → Int} {rw tp un lf pa : Nat → Nat}
theorem k_compare (hG : zd_G B) (hl : l.stackTraces = false) {R : Nat → zr} (hR : ROk R) (hM : MR R K Mn Mi Sc) {a b : Int} (ha : iR a) (hb : iR b)
    (hbad : ((a < 0 ∨ 10 ≤ a) ∨ (b < 0 ∨ 10 ≤ b)) → Q (some (.int 0)) (mS (1) ln sz sc mo be ts us lz pr fa D K Mn Mi Sc rw tp un lf pa))
    (hq : ∀ A C : Nat, a = A → b = C → A < 10 → C < 10 → Q (some (.int (sp_cmp (R A) (R C)))) (mS (0) ln sz sc mo be ts us lz pr fa D K Mn Mi Sc rw tp un lf pa)) : zm_M l B gM m_Mo_compare [.ref 53, .int (iI a), .int (iI b)] (mS t ln sz sc mo be ts us lz pr fa D K Mn Mi Sc rw tp un lf pa) Q := by
  have bad : ((a < 0 ∨ 10 ≤ a) ∨ (b < 0 ∨ 10 ≤ b)) → zm_W l B gM m_Mo_compare 15 [some (.ref 53), some (.int (iI a)), some (.int (iI b)), none, none] [.ref 53] (mS t ln sz sc mo be ts us lz pr fa D K Mn Mi Sc rw tp un lf pa) Q := by
    intro hc
    refine zm_go (okm_Mo_compare hG hl) [] 200 ?_
    conv => whnf
    refine ⟨fun z => absurd z (by decide), fun _ => ?_⟩
    conv => whnf
    exact ⟨hbad hc, trivial⟩
  refine zm_go (okm_Mo_compare hG hl) [15, 59] 200 ?_
  conv => whnf
  refine k_no hG hl ha ?_
  by_cases ca : a < 0 ∨ 10 ≤ a
  · rw [decide_eq_true ca]
    conv => whnf
    refine ⟨fun _ => ?_, fun z => absurd z (by decide)⟩
    refine ⟨?_, trivial⟩
    try dsimp only
    exact bad (Or.inl ca)
  · rw [decide_eq_false ca]
    conv => whnf
    refine ⟨fun z => absurd rfl z, fun _ => ?_⟩
    conv => whnf
    refine k_no hG hl hb ?_
    by_cases cb : b < 0 ∨ 10 ≤ b
    · rw [decide_eq_true cb]
      conv => whnf
      refine ⟨fun z => absurd z (by decide), fun _ => ?_⟩
      refine ⟨?_, trivial⟩
      try dsimp only
      exact bad (Or.inr cb)
    · rw [decide_eq_false cb]
      conv => whnf
      refine ⟨fun _ => ?_, fun z => absurd rfl z⟩
      conv => whnf
      obtain ⟨A, ea, la⟩ := iI_of_nat ca
      obtain ⟨C, eb, lb⟩ := iI_of_nat cb
      have hqq := hq A C ea eb la lb
      subst ea
      subst eb
      rw [← iI_nI, ← iI_nI]
      refine ⟨fun _ => ?_, fun z => absurd (by decide) z⟩
      conv => whnf
      obtain ⟨ma, ka, na, sa⟩ := hM.2 A la
      obtain ⟨mb, kb, nb, sb⟩ := hM.2 C lb
      have r0 : iR 0 := ⟨by decide, by decide⟩
      have last : zm_W l B gM m_Mo_compare 87 [some (.ref 53), some (.int (nI A)), some (.int (nI C)), some (.int (iI (sgn (R A)))), some (.int (iI (sgn (R C))))] [] (mS (0) ln sz sc mo be ts us lz pr fa D K Mn Mi Sc rw tp un lf pa) Q := by
        have rA := sgn_r (R A)
        have rC := sgn_r (R C)
        refine zm_go (okm_Mo_compare hG hl) [97, 119] 200 ?_
        conv => whnf
        have dif : sgn (R A) ≠ sgn (R C) ∨ sgn (R A) = 0 → zm_W l B gM m_Mo_compare 97 [some (.ref 53), some (.int (nI A)), some (.int (nI C)), some (.int (iI (sgn (R A)))), some (.int (iI (sgn (R C))))] [] (mS (0) ln sz sc mo be ts us lz pr fa D K Mn Mi Sc rw tp un lf pa) Q := by
          intro hc
          unfold sp_cmp at hqq
          rw [if_pos hc] at hqq
          refine zm_go (okm_Mo_compare hG hl) [] 200 ?_
          conv => whnf
          refine ⟨fun z => ?_, fun z => ?_⟩
          · have z2 := (iI_le rC rA).mp z
            conv => whnf
            refine ⟨fun z => ?_, fun z => ?_⟩
            · have z3 := (iI_le rA rC).mp z
              conv => whnf
              rw [show cmpI (sgn (R A)) (sgn (R C)) = 0 by unfold cmpI; rw [if_neg (by omega), if_pos (by omega)]] at hqq
              exact ⟨hqq, trivial⟩
            · have z3 : ¬ sgn (R A) ≤ sgn (R C) := fun q => z ((iI_le rA rC).mpr q)
              conv => whnf
              rw [show cmpI (sgn (R A)) (sgn (R C)) = 1 by unfold cmpI; rw [if_neg (by omega), if_neg (by omega)]] at hqq
              exact ⟨hqq, trivial⟩
          · have z2 : ¬ sgn (R C) ≤ sgn (R A) := fun q => z ((iI_le rC rA).mpr q)
            conv => whnf
            rw [show cmpI (sgn (R A)) (sgn (R C)) = -1 by unfold cmpI; rw [if_pos (by omega)]] at hqq
            exact ⟨hqq, trivial⟩
        refine ⟨fun z => ?_, fun z => ?_⟩
        · refine ⟨?_, trivial⟩
          try dsimp only
          exact dif (Or.inl (fun q => z (by rw [q])))
        · have z1 := (iI_eq rA rC).mp z
          conv => whnf
          refine ⟨fun z => ?_, fun z => ?_⟩
          · have z2 : sgn (R A) ≠ 0 := fun q => z (by rw [q]; rfl)
            refine ⟨?_, trivial⟩
            try dsimp only
            have h0 : (R A).2.1 ≠ 0 := fun q => z2 (by unfold sgn; rw [if_pos q])
            have h1 : (R C).2.1 ≠ 0 := fun q => z2 (by rw [z1]; unfold sgn; rw [if_pos q])
            unfold sp_cmp at hqq
            rw [if_neg (fun q => by rcases q with q | q; exact q z1; exact z2 q)] at hqq
            refine zm_go (okm_Mo_compare hG hl) [] 200 ?_
            conv => whnf
            refine k_compareSizes hG hl hR hM la lb h0 h1 ?_
            conv => whnf
            exact ⟨hqq, trivial⟩
          · have z2 : sgn (R A) = 0 := (iI_eq rA r0).mp z
            refine ⟨?_, trivial⟩
            try dsimp only
            exact dif (Or.inr z2)
      have two : zm_W l B gM m_Mo_compare 59 [some (.ref 53), some (.int (nI A)), some (.int (nI C)), some (.int (iI (sgn (R A)))), none] [] (mS (0) ln sz sc mo be ts us lz pr fa D K Mn Mi Sc rw tp un lf pa) Q := by
        refine zm_go (okm_Mo_compare hG hl) [87] 200 ?_
        conv => whnf
        refine k_isZero hG hl hM lb ?_
        conv => whnf
        by_cases eC : (R C).2.1 = 0
        · rw [decide_eq_true eC]
          refine ⟨fun z => absurd z (by decide), fun _ => ?_⟩
          conv => whnf
          refine ⟨?_, trivial⟩
          try dsimp only
          rw [show sgn (R C) = 0 from (by unfold sgn; rw [if_pos eC])] at last
          exact last
        · rw [decide_eq_false eC]
          refine ⟨fun _ => ?_, fun z => absurd rfl z⟩
          conv => whnf
          refine ⟨C, rfl, by omega, ?_⟩
          conv => whnf
          dsimp only
          rw [nb]
          cases gC : (R C).1
          · refine ⟨fun _ => ?_, fun z => absurd rfl z⟩
            conv => whnf
            refine ⟨?_, trivial⟩
            try dsimp only
            rw [show sgn (R C) = 1 from (by unfold sgn; rw [if_neg eC, gC]; rfl)] at last
            exact last
          · refine ⟨fun z => absurd z (by decide), fun _ => ?_⟩
            conv => whnf
            refine ⟨?_, trivial⟩
            try dsimp only
            rw [show sgn (R C) = (-1) from (by unfold sgn; rw [if_neg eC, gC]; rfl)] at last
            exact last
      refine k_isZero hG hl hM la ?_
      conv => whnf
      by_cases eA : (R A).2.1 = 0
      · rw [decide_eq_true eA]
        refine ⟨fun z => absurd z (by decide), fun _ => ?_⟩
        conv => whnf
        refine ⟨?_, trivial⟩
        try dsimp only
        rw [show sgn (R A) = 0 from (by unfold sgn; rw [if_pos eA])] at two
        exact two
      · rw [decide_eq_false eA]
        refine ⟨fun _ => ?_, fun z => absurd rfl z⟩
        conv => whnf
        refine ⟨A, rfl, by omega, ?_⟩
        conv => whnf
        dsimp only
        rw [na]
        cases gA : (R A).1
        · refine ⟨fun _ => ?_, fun z => absurd rfl z⟩
          conv => whnf
          refine ⟨?_, trivial⟩
          try dsimp only
          rw [show sgn (R A) = 1 from (by unfold sgn; rw [if_neg eA, gA]; rfl)] at two
          exact two
        · refine ⟨fun z => absurd z (by decide), fun _ => ?_⟩
          conv => whnf
          refine ⟨?_, trivial⟩
          try dsimp only
          rw [show sgn (R A) = (-1) from (by unfold sgn; rw [if_neg eA, gA]; rfl)] at two
          exact two
theorem k_thrown (hG : zd_G B) (hl : l.stackTraces = false) (hq : Q (some (.int (nI t))) (mS t ln sz sc mo be ts us lz pr fa D K Mn Mi Sc rw tp un lf pa)) : zm_M l B gM m_Mo_thrown [.ref 53] (mS t ln sz sc mo be ts us lz pr fa D K Mn Mi Sc rw tp un lf pa) Q := by
  refine zm_go (okm_Mo_thrown hG hl) [] 200 ?_
  conv => whnf
  exact ⟨hq, trivial⟩
theorem k_wipe (hG : zd_G B) (hl : l.stackTraces = false) (hq : Q (some (.int (nI ln))) (mS (0) (0) sz sc mo be ts us lz pr fa D K Mn Mi Sc rw tp un lf pa)) : zm_M l B gM m_Mo_wipe [.ref 53] (mS t ln sz sc mo be ts us lz pr fa D K Mn Mi Sc rw tp un lf pa) Q := by
  refine zm_go (okm_Mo_wipe hG hl) [] 200 ?_
  conv => whnf
  exact ⟨hq, trivial⟩
theorem k_character (hG : zd_G B) (hl : l.stackTraces = false) {i : Int} (hi : iR i) (hp : pr ≤ 12200) (hq : Q (some (.int (if i < 0 ∨ (pr : Int) ≤ i then -1 else nI (pa i.toNat)))) (mS (0) ln sz sc mo be ts us lz pr fa D K Mn Mi Sc rw tp un lf pa)) : zm_M l B gM m_Mo_character [.ref 53, .int (iI i)] (mS t ln sz sc mo be ts us lz pr fa D K Mn Mi Sc rw tp un lf pa) Q := by
  have r0 : iR 0 := ⟨by decide, by decide⟩
  have rp : iR pr := ⟨by omega, by omega⟩
  refine zm_go (okm_Mo_character hG hl) [] 200 ?_
  conv => whnf
  refine ⟨fun z => ?_, fun z => ?_⟩
  · have z1 := (iI_lt hi r0).mp z
    rw [if_pos (Or.inl z1)] at hq
    conv => whnf
    exact ⟨hq, trivial⟩
  · have z1 : ¬ i < 0 := fun q => z ((iI_lt hi r0).mpr q)
    conv => whnf
    rw [iI_nI pr]
    refine ⟨fun z => ?_, fun z => ?_⟩
    · have z2 := (iI_lt hi rp).mp z
      rw [if_neg (by omega)] at hq
      conv => whnf
      refine ⟨i.toNat, by rw [iI_nI]; congr 1; omega, by omega, ?_⟩
      conv => whnf
      exact ⟨hq, trivial⟩
    · have z2 : ¬ i < pr := fun q => z ((iI_lt hi rp).mpr q)
      rw [if_pos (by omega)] at hq
      conv => whnf
      exact ⟨hq, trivial⟩
end KJ

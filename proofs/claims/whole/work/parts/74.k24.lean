/-! the model: what the draft says -/
def firstNot (c : Nat → Bool) : Nat → Nat → Nat
  | 0, k => k
  | n + 1, k => if c k then firstNot c n (k + 1) else k
theorem firstNot_spec (c : Nat → Bool) (n : Nat) : ∀ k, k ≤ firstNot c n k ∧ firstNot c n k ≤ k + n ∧ (∀ i, k ≤ i → i < firstNot c n k → c i = true) ∧ (firstNot c n k = k + n ∨ c (firstNot c n k) = false) := by
  induction n with
  | zero => exact fun k => ⟨Nat.le_refl _, Nat.le_refl _, fun i h1 h2 => absurd h2 (by show ¬ i < k; omega), Or.inl rfl⟩
  | succ n ih =>
    intro k
    unfold firstNot
    cases h : c k with
    | false => exact ⟨Nat.le_refl _, by show k ≤ k + (n + 1); omega, fun i h1 h2 => absurd h2 (by show ¬ i < k; omega), Or.inr h⟩
    | true =>
      obtain ⟨a, b, d, e⟩ := ih (k + 1)
      refine ⟨by show k ≤ firstNot c n (k + 1); omega, by show firstNot c n (k + 1) ≤ _; omega, fun i h1 h2 => ?_, ?_⟩
      · by_cases q : i = k
        · rw [q]; exact h
        · exact d i (by omega) h2
      · rcases e with e | e
        · exact Or.inl (by show firstNot c n (k + 1) = _; omega)
        · exact Or.inr e
def scp (a : Nat → Nat) (p : Nat) : Nat → Bool
  | 0 => false
  | k + 1 => scp a p k || decide (a (p + k) = 46)
def scn (a : Nat → Nat) (p : Nat) : Nat → Nat
  | 0 => 0
  | k + 1 => scn a p k + (if a (p + k) = 46 then 0 else 1)
def scf (a : Nat → Nat) (p : Nat) : Nat → Nat
  | 0 => 0
  | k + 1 => scf a p k + (if a (p + k) = 46 then 0 else if scp a p k then 1 else 0)
def scv (a : Nat → Nat) (p : Nat) : Nat → Nat
  | 0 => 0
  | k + 1 => if a (p + k) = 46 then scv a p k else scv a p k * 10 + (a (p + k) - 48)
def sco (a : Nat → Nat) (p k : Nat) : Bool := dgt (a (p + k)) || (decide (a (p + k) = 46) && !scp a p k)
def exv (a : Nat → Nat) (p : Nat) : Nat → Nat
  | 0 => 0
  | k + 1 => exv a p k * 10 + (a (p + k) - 48)
theorem scn_le (a : Nat → Nat) (p k : Nat) : scn a p k ≤ k ∧ scf a p k ≤ scn a p k := by
  induction k with
  | zero => exact ⟨Nat.le_refl _, Nat.le_refl _⟩
  | succ k ih =>
    obtain ⟨i1, i2⟩ := ih
    show scn a p k + (if a (p + k) = 46 then 0 else 1) ≤ k + 1 ∧ scf a p k + (if a (p + k) = 46 then 0 else if scp a p k then 1 else 0) ≤ scn a p k + (if a (p + k) = 46 then 0 else 1)
    by_cases h : a (p + k) = 46
    · rw [if_pos h, if_pos h]; omega
    · rw [if_neg h, if_neg h]
      cases scp a p k <;> simp <;> omega
theorem exv_lt (a : Nat → Nat) (p k : Nat) (h : ∀ i, i < k → dgt (a (p + i)) = true) : exv a p k < 10 ^ k := by
  induction k with
  | zero => show 0 < 1; decide
  | succ k ih =>
    have i1 := ih (fun i hi => h i (by omega))
    have i2 := h k (by omega)
    unfold dgt at i2
    have i3 := of_decide_eq_true i2
    show exv a p k * 10 + (a (p + k) - 48) < 10 ^ (k + 1)
    rw [Nat.pow_succ]
    omega
/-- where the digits begin, how far they go, where the exponent's sign stands, where its figures begin, how many -/
def s_p0 (a : Nat → Nat) : Nat := if a 0 = 43 ∨ a 0 = 45 then 1 else 0
def s_ke (a : Nat → Nat) (ln : Nat) : Nat := firstNot (sco a (s_p0 a)) (ln + 1) 0
def s_p2 (a : Nat → Nat) (ln : Nat) : Nat := s_p0 a + s_ke a ln + 1
def s_p3 (a : Nat → Nat) (ln : Nat) : Nat := if a (s_p2 a ln) = 45 ∨ a (s_p2 a ln) = 43 then s_p2 a ln + 1 else s_p2 a ln
def s_fg (a : Nat → Nat) (ln : Nat) : Nat := firstNot (fun k => dgt (a (s_p3 a ln + k))) 11 0
def sp_saysA (a : Nat → Nat) (ln : Nat) : Option (Bool × Nat × Int) :=
  if scn a (s_p0 a) (s_ke a ln) = 0 then none
  else if a (s_p0 a + s_ke a ln) = 101 ∨ a (s_p0 a + s_ke a ln) = 69 then
    (if s_fg a ln < 1 ∨ 10 < s_fg a ln ∨ s_p3 a ln + s_fg a ln ≠ ln then none
     else some (decide (a 0 = 45), scv a (s_p0 a) (s_ke a ln), if a (s_p2 a ln) = 45 then (scf a (s_p0 a) (s_ke a ln) : Int) + exv a (s_p3 a ln) (s_fg a ln) else (scf a (s_p0 a) (s_ke a ln) : Int) - exv a (s_p3 a ln) (s_fg a ln)))
  else if s_p0 a + s_ke a ln = ln then some (decide (a 0 = 45), scv a (s_p0 a) (s_ke a ln), (scf a (s_p0 a) (s_ke a ln) : Int)) else none
def sp_says (D : Nat → Nat) (ln : Nat) : Option (Bool × Nat × Int) := sp_saysA (atc D ln) ln
theorem atc_out {D : Nat → Nat} {ln p : Nat} (h : ln ≤ p) : atc D ln p = 0 := if_neg (by omega)
theorem ke_spec (D : Nat → Nat) (ln : Nat) : s_p0 (atc D ln) + s_ke (atc D ln) ln ≤ ln ∧ (∀ k, k < s_ke (atc D ln) ln → sco (atc D ln) (s_p0 (atc D ln)) k = true) ∧ sco (atc D ln) (s_p0 (atc D ln)) (s_ke (atc D ln) ln) = false := by
  obtain ⟨h1, h2, h3, h4⟩ := firstNot_spec (sco (atc D ln) (s_p0 (atc D ln))) (ln + 1) 0
  have hk : ∀ k, sco (atc D ln) (s_p0 (atc D ln)) k = true → s_p0 (atc D ln) + k < ln := by
    intro k hk
    rcases Nat.lt_or_ge (s_p0 (atc D ln) + k) ln with c | c
    · exact c
    · unfold sco at hk
      rw [atc_out c] at hk
      exact absurd hk (by unfold dgt; simp)
  have h5 : ∀ k, k < s_ke (atc D ln) ln → sco (atc D ln) (s_p0 (atc D ln)) k = true := fun k hk => h3 k (by omega) hk
  have hp0 : s_p0 (atc D ln) ≤ ln := by
    unfold s_p0
    split
    · rename_i c
      rcases Nat.eq_zero_or_pos ln with e | e
      · rw [atc_out (by omega)] at c
        omega
      · exact e
    · omega
  refine ⟨?_, h5, ?_⟩
  · rcases Nat.eq_zero_or_pos (s_ke (atc D ln) ln) with e | e
    · omega
    · have := hk _ (h5 (s_ke (atc D ln) ln - 1) (by omega))
      omega
  · rcases h4 with e | e
    · exfalso
      have : s_ke (atc D ln) ln = 0 + (ln + 1) := e
      have := hk _ (h5 ln (by omega))
      omega
    · exact e
section KY
variable {l : Launch} {B : zd_B} {Q : Option Value → zst → Prop} {t ln sz : Nat} {sc : Int} {mo be : Bool} {ts us lz pr fa : Nat} {D K Mn : Nat → Nat} {Mi : Nat → Bool} {Sc : Nat → Int} {rw tp un lf pa : Nat → Nat}
theorem atc_lt {D : Nat → Nat} (hD : ∀ i, D i < 256) (ln p : Nat) : atc D ln p < 256 := by
  unfold atc
  split
  · exact hD p
  · decide
/-- the figures of the exponent -/
theorem w_says247 (hG : zd_G B) (hl : l.stackTraces = false) {p3 m : Nat} {pt ls : Bool} (hn : ln ≤ 1100) (hD : ∀ i, D i < 256) (hp3 : p3 ≤ 2000) (hm : m ≤ 11) (h1 : ∀ i, i < m → dgt (atc D ln (p3 + i)) = true) (h2 : m = 11 ∨ dgt (atc D ln (p3 + m)) = false)
    (hq : zm_W l B gM m_Mo_says 293 [some (.ref 53), some (.int (nI (p3 + m))), some (.int (bI pt)), some (.int (bI ls)), some (.long (lI (exv (atc D ln) p3 m : Int))), none, some (.int (nI m))] [] (mS t ln sz sc mo be ts us lz pr fa D K Mn Mi Sc rw tp un lf pa) Q) :
    ∀ (d k : Nat), k + d = m → zm_W l B gM m_Mo_says 247 [some (.ref 53), some (.int (nI (p3 + k))), some (.int (bI pt)), some (.int (bI ls)), some (.long (lI (exv (atc D ln) p3 k : Int))), none, some (.int (nI k))] [] (mS t ln sz sc mo be ts us lz pr fa D K Mn Mi Sc rw tp un lf pa) Q := by
  intro d
  induction d with
  | zero =>
    intro k hk
    have e : k = m := by omega
    subst e
    have hb := atc_lt hD ln (p3 + k)
    refine zm_go (okm_Mo_says hG hl) [293] 200 ?_
    conv => whnf
    refine k_at hG hl hn (by omega) ?_
    conv => whnf
    refine k_isDigit hG hl (by omega) ?_
    conv => whnf
    cases hd : dgt (atc D ln (p3 + k))
    · refine ⟨fun _ => ?_, fun z => absurd rfl z⟩
      refine ⟨?_, trivial⟩
      try dsimp only
      exact hq
    · refine ⟨fun z => absurd z (by decide), fun _ => ?_⟩
      conv => whnf
      have e2 : k = 11 := by rcases h2 with h2 | h2; exact h2; rw [hd] at h2; cases h2
      refine ⟨fun _ => ?_, fun z => absurd ((nI_ge0 (b := 11) (by omega) (by decide)).mpr (by omega)) z⟩
      refine ⟨?_, trivial⟩
      try dsimp only
      exact hq
  | succ d ih =>
    intro k hk
    have hb := atc_lt hD ln (p3 + k)
    have hdk := h1 k (by omega)
    have hd2 : 48 ≤ atc D ln (p3 + k) ∧ atc D ln (p3 + k) ≤ 57 := of_decide_eq_true (by unfold dgt at hdk; exact hdk)
    refine zm_go (okm_Mo_says hG hl) [247] 200 ?_
    conv => whnf
    refine k_at hG hl hn (by omega) ?_
    conv => whnf
    refine k_isDigit hG hl (by omega) ?_
    rw [hdk]
    conv => whnf
    refine ⟨fun z => absurd z (by decide), fun _ => ?_⟩
    conv => whnf
    refine ⟨fun z => absurd ((nI_ge0 (b := 11) (by omega) (by decide)).mp z) (by omega), fun _ => ?_⟩
    conv => whnf
    refine k_at hG hl hn (by omega) ?_
    conv => whnf
    refine ⟨?_, trivial⟩
    try dsimp only
    rw [nI_1, nI_1, iI_nI (atc D ln (p3 + k)), iI_l ⟨by omega, by omega⟩, show (10 : Int64) = lI 10 from rfl, show (48 : Int64) = lI 48 from rfl, lI_mul, lI_add, lI_sub]
    have nx := ih (k + 1) (by omega)
    rw [show (exv (atc D ln) p3 (k + 1) : Int) = 10 * (exv (atc D ln) p3 k : Int) + (atc D ln (p3 + k) : Int) - 48 by
      show ((exv (atc D ln) p3 k * 10 + (atc D ln (p3 + k) - 48) : Nat) : Int) = _
      omega] at nx
    exact nx
/-- the digits and the point -/
theorem w_says62 (hG : zd_G B) (hl : l.stackTraces = false) {p0 m : Nat} (hn : ln ≤ 1100) (hD : ∀ i, D i < 256) (hp0 : p0 + m ≤ ln) (h1 : ∀ k, k < m → sco (atc D ln) p0 k = true) (h2 : sco (atc D ln) p0 m = false)
    (hq : ∀ g', (∀ i, g' i < 10) → tv g' (scn (atc D ln) p0 m) = scv (atc D ln) p0 m → zm_W l B gM m_Mo_says 171 [some (.ref 53), some (.int (nI (p0 + m))), some (.int (bI (scp (atc D ln) p0 m))), none, none, none, none] [] (mS t ln (scn (atc D ln) p0 m) ((scf (atc D ln) p0 m : Int)) mo be ts us lz pr fa D K Mn Mi Sc (g') tp un lf pa) Q) :
    ∀ (d k : Nat) (g : Nat → Nat), k + d = m → (∀ i, g i < 10) → tv g (scn (atc D ln) p0 k) = scv (atc D ln) p0 k → zm_W l B gM m_Mo_says 62 [some (.ref 53), some (.int (nI (p0 + k))), some (.int (bI (scp (atc D ln) p0 k))), none, none, none, none] [] (mS t ln (scn (atc D ln) p0 k) ((scf (atc D ln) p0 k : Int)) mo be ts us lz pr fa D K Mn Mi Sc (g) tp un lf pa) Q := by
  intro d
  induction d with
  | zero =>
    intro k g hk hg hv
    have e : k = m := by omega
    subst e
    have hb := atc_lt hD ln (p0 + k)
    unfold sco at h2
    obtain ⟨e1, e2⟩ := Bool.or_eq_false_iff.mp h2
    refine zm_go (okm_Mo_says hG hl) [171] 200 ?_
    conv => whnf
    refine k_at hG hl hn (by omega) ?_
    conv => whnf
    refine k_isDigit hG hl (by omega) ?_
    rw [e1]
    conv => whnf
    refine ⟨fun z => absurd rfl z, fun _ => ?_⟩
    conv => whnf
    refine k_at hG hl hn (by omega) ?_
    conv => whnf
    by_cases hp : atc D ln (p0 + k) = 46
    · refine ⟨fun z => absurd ((nI_eq (b := 46) (by omega) (by decide)).mpr hp) z, fun _ => ?_⟩
      conv => whnf
      have e3 : scp (atc D ln) p0 k = true := by
        rw [decide_eq_true hp] at e2
        simpa using e2
      have q := hq g hg hv
      rw [e3] at q ⊢
      refine ⟨fun _ => ?_, fun z => absurd z (by decide)⟩
      refine ⟨?_, trivial⟩
      try dsimp only
      exact q
    · refine ⟨fun _ => ?_, fun z => absurd ((nI_eq (b := 46) (by omega) (by decide)).mp z) hp⟩
      refine ⟨?_, trivial⟩
      try dsimp only
      exact hq g hg hv
  | succ d ih =>
    intro k g hk hg hv
    have hb := atc_lt hD ln (p0 + k)
    have hsc := h1 k (by omega)
    unfold sco at hsc
    obtain ⟨nl, fl⟩ := scn_le (atc D ln) p0 k
    have body : zm_W l B gM m_Mo_says 87 [some (.ref 53), some (.int (nI (p0 + k))), some (.int (bI (scp (atc D ln) p0 k))), none, none, none, none] [] (mS t ln (scn (atc D ln) p0 k) ((scf (atc D ln) p0 k : Int)) mo be ts us lz pr fa D K Mn Mi Sc (g) tp un lf pa) Q := by
      have b107 : zm_W l B gM m_Mo_says 107 [some (.ref 53), some (.int (nI (p0 + k))), some (.int (bI (scp (atc D ln) p0 (k + 1)))), none, none, none, none] [] (mS t ln (scn (atc D ln) p0 k) ((scf (atc D ln) p0 k : Int)) mo be ts us lz pr fa D K Mn Mi Sc (g) tp un lf pa) Q := by
        refine zm_go (okm_Mo_says hG hl) [62] 200 ?_
        conv => whnf
        refine k_at hG hl hn (by omega) ?_
        conv => whnf
        by_cases hp : atc D ln (p0 + k) = 46
        · have nx := ih (k + 1) g (by omega) hg (by
            show tv g (scn (atc D ln) p0 k + (if atc D ln (p0 + k) = 46 then 0 else 1)) = if atc D ln (p0 + k) = 46 then scv (atc D ln) p0 k else _
            rw [if_pos hp, if_pos hp]
            exact hv)
          rw [show scn (atc D ln) p0 (k + 1) = scn (atc D ln) p0 k by show scn (atc D ln) p0 k + (if atc D ln (p0 + k) = 46 then 0 else 1) = _; rw [if_pos hp]; rfl, show scf (atc D ln) p0 (k + 1) = scf (atc D ln) p0 k by show scf (atc D ln) p0 k + (if atc D ln (p0 + k) = 46 then 0 else _) = _; rw [if_pos hp]; rfl] at nx
          refine ⟨fun _ => ?_, fun z => absurd ((nI_eq (b := 46) (by omega) (by decide)).mpr hp) z⟩
          conv => whnf
          refine ⟨?_, trivial⟩
          try dsimp only
          rw [nI_1]
          exact nx
        · have hdg : dgt (atc D ln (p0 + k)) = true := by
            rw [decide_eq_false hp] at hsc
            simpa using hsc
          have hd2 : 48 ≤ atc D ln (p0 + k) ∧ atc D ln (p0 + k) ≤ 57 := of_decide_eq_true (by unfold dgt at hdg; exact hdg)
          have nx := ih (k + 1) (zu g (scn (atc D ln) p0 k) (atc D ln (p0 + k) - 48)) (by omega) (zu_lt hg (by omega)) (by
            show tv _ (scn (atc D ln) p0 k + (if atc D ln (p0 + k) = 46 then 0 else 1)) = if atc D ln (p0 + k) = 46 then scv (atc D ln) p0 k else _
            rw [if_neg hp, if_neg hp, tv_ext, hv])
          rw [show scn (atc D ln) p0 (k + 1) = scn (atc D ln) p0 k + 1 by show scn (atc D ln) p0 k + (if atc D ln (p0 + k) = 46 then 0 else 1) = _; rw [if_neg hp], show scf (atc D ln) p0 (k + 1) = scf (atc D ln) p0 k + (if scp (atc D ln) p0 k then 1 else 0) by show scf (atc D ln) p0 k + (if atc D ln (p0 + k) = 46 then 0 else _) = _; rw [if_neg hp], show scp (atc D ln) p0 (k + 1) = scp (atc D ln) p0 k by show (scp (atc D ln) p0 k || decide (atc D ln (p0 + k) = 46)) = _; rw [decide_eq_false hp, Bool.or_false]] at nx
          rw [show scp (atc D ln) p0 (k + 1) = scp (atc D ln) p0 k by show (scp (atc D ln) p0 k || decide (atc D ln (p0 + k) = 46)) = _; rw [decide_eq_false hp, Bool.or_false]]
          refine ⟨fun z => absurd ((nI_eq (b := 46) (by omega) (by decide)).mp z) hp, fun _ => ?_⟩
          conv => whnf
          refine k_at hG hl hn (by omega) ?_
          conv => whnf
          rw [show nI (atc D ln (p0 + k)) - 48 = nI (atc D ln (p0 + k) - 48) by rw [show (48 : Int32) = nI 48 from rfl, nI_sub hd2.1]]
          refine ⟨(scn (atc D ln) p0 k), rfl, by omega, ?_⟩
          conv => whnf
          cases hpt : scp (atc D ln) p0 k
          · rw [hpt, if_neg (by decide), Nat.add_zero] at nx
            refine ⟨fun _ => ?_, fun z => absurd rfl z⟩
            conv => whnf
            refine ⟨?_, trivial⟩
            try dsimp only
            rw [nI_1, nI_1]
            rw [upd_nI]
            exact nx
          · rw [hpt, if_pos rfl] at nx
            refine ⟨fun z => absurd z (by decide), fun _ => ?_⟩
            conv => whnf
            refine ⟨?_, trivial⟩
            try dsimp only
            rw [nI_1, nI_1, show lI (scf (atc D ln) p0 k : Int) + 1 = lI ((scf (atc D ln) p0 k + 1 : Nat) : Int) by show _ + lI 1 = _; rw [lI_add]; rfl]
            rw [upd_nI]
            exact nx
      rw [show scp (atc D ln) p0 (k + 1) = (scp (atc D ln) p0 k || decide (atc D ln (p0 + k) = 46)) from rfl] at b107
      refine zm_go (okm_Mo_says hG hl) [107] 200 ?_
      conv => whnf
      cases hpt : scp (atc D ln) p0 k
      · rw [hpt] at b107
        refine ⟨fun z => absurd rfl z, fun _ => ?_⟩
        conv => whnf
        refine k_at hG hl hn (by omega) ?_
        conv => whnf
        by_cases hp : atc D ln (p0 + k) = 46
        · rw [decide_eq_true hp] at b107
          refine ⟨fun z => absurd ((nI_eq (b := 46) (by omega) (by decide)).mpr hp) z, fun _ => ?_⟩
          conv => whnf
          refine ⟨?_, trivial⟩
          try dsimp only
          exact b107
        · rw [decide_eq_false hp] at b107
          refine ⟨fun _ => ?_, fun z => absurd ((nI_eq (b := 46) (by omega) (by decide)).mp z) hp⟩
          conv => whnf
          refine ⟨?_, trivial⟩
          try dsimp only
          exact b107
      · rw [hpt] at b107
        refine ⟨fun _ => ?_, fun z => absurd z (by decide)⟩
        conv => whnf
        refine ⟨?_, trivial⟩
        try dsimp only
        exact b107
    refine zm_go (okm_Mo_says hG hl) [87] 200 ?_
    conv => whnf
    refine k_at hG hl hn (by omega) ?_
    conv => whnf
    refine k_isDigit hG hl (by omega) ?_
    conv => whnf
    cases hdg : dgt (atc D ln (p0 + k))
    · rw [hdg] at hsc
      have hs2 : atc D ln (p0 + k) = 46 ∧ scp (atc D ln) p0 k = false := by simpa using hsc
      refine ⟨fun z => absurd rfl z, fun _ => ?_⟩
      conv => whnf
      refine k_at hG hl hn (by omega) ?_
      conv => whnf
      refine ⟨fun z => absurd ((nI_eq (b := 46) (by omega) (by decide)).mpr hs2.1) z, fun _ => ?_⟩
      conv => whnf
      rw [hs2.2] at body ⊢
      refine ⟨fun z => absurd rfl z, fun _ => ?_⟩
      refine ⟨?_, trivial⟩
      try dsimp only
      exact body
    · refine ⟨fun _ => ?_, fun z => absurd z (by decide)⟩
      refine ⟨?_, trivial⟩
      try dsimp only
      exact body
theorem k_says (hG : zd_G B) (hl : l.stackTraces = false) (hn : ln ≤ 1100) (hD : ∀ i, D i < 256) (hd : ∀ i, rw i < 10)
    (hF : sp_says D ln = none → ∀ (sz : Nat) (sc : Int) (be : Bool) (rw : Nat → Nat), (∀ i, rw i < 10) → Q (some (.int (bI false))) (mS t ln sz sc (false) be ts us lz pr fa D K Mn Mi Sc rw tp un lf pa))
    (hT : ∀ ng V s, sp_says D ln = some (ng, V, s) → ∀ (sz : Nat) (rw : Nat → Nat), (∀ i, rw i < 10) → tv rw sz = V → sz ≤ 1100 → -20000000000 < s → s < 20000000000 → Q (some (.int (bI true))) (mS t ln sz (s) (false) (ng) ts us lz pr fa D K Mn Mi Sc rw tp un lf pa)) : zm_M l B gM m_Mo_says [.ref 53] (mS t ln sz sc mo be ts us lz pr fa D K Mn Mi Sc rw tp un lf pa) Q := by
  obtain ⟨k1, k2, k3⟩ := ke_spec D ln
  have hb0 := atc_lt hD ln 0
  have scan : ∀ g' : Nat → Nat, (∀ i, g' i < 10) → tv g' (scn (atc D ln) (s_p0 (atc D ln)) (s_ke (atc D ln) ln)) = scv (atc D ln) (s_p0 (atc D ln)) (s_ke (atc D ln) ln) → zm_W l B gM m_Mo_says 171 [some (.ref 53), some (.int (nI (s_p0 (atc D ln) + s_ke (atc D ln) ln))), some (.int (bI (scp (atc D ln) (s_p0 (atc D ln)) (s_ke (atc D ln) ln)))), none, none, none, none] [] (mS t ln (scn (atc D ln) (s_p0 (atc D ln)) (s_ke (atc D ln) ln)) ((scf (atc D ln) (s_p0 (atc D ln)) (s_ke (atc D ln) ln) : Int)) (false) (decide (atc D ln 0 = 45)) ts us lz pr fa D K Mn Mi Sc (g') tp un lf pa) Q := by
    intro g' g1 g2
    obtain ⟨nl, fl⟩ := scn_le (atc D ln) (s_p0 (atc D ln)) (s_ke (atc D ln) ln)
    have hF0 := hF
    have hT0 := hT
    unfold sp_says sp_saysA at hF hT
    by_cases hz : scn (atc D ln) (s_p0 (atc D ln)) (s_ke (atc D ln) ln) = 0
    · rw [if_pos hz] at hF
      refine zm_go (okm_Mo_says hG hl) [] 200 ?_
      conv => whnf
      refine ⟨fun z => absurd ((nI_z (by omega)).mpr hz) z, fun _ => ?_⟩
      conv => whnf
      exact ⟨⟨false, rfl, hF rfl _ _ _ _ g1⟩, trivial⟩
    · rw [if_neg hz] at hF hT
      have e333 : ∀ (p : Nat) (s : Int) (x3 x4 x6 : Option Value) (x2 : Int32), p < 100000 → -20000000000 < s → s < 20000000000 → (p ≠ ln → sp_says D ln = none) → (p = ln → sp_says D ln = some (decide (atc D ln 0 = 45), scv (atc D ln) (s_p0 (atc D ln)) (s_ke (atc D ln) ln), s)) → zm_W l B gM m_Mo_says 333 [some (.ref 53), some (.int (nI p)), some (.int x2), x3, x4, none, x6] [] (mS t ln (scn (atc D ln) (s_p0 (atc D ln)) (s_ke (atc D ln) ln)) (s) (false) (decide (atc D ln 0 = 45)) ts us lz pr fa D K Mn Mi Sc (g') tp un lf pa) Q := by
        intro p s x3 x4 x6 x2 hp s1 s2 h1 h2
        have hF' := hF0
        have hT' := hT0
        refine zm_go (okm_Mo_says hG hl) [] 200 ?_
        conv => whnf
        by_cases e : p = ln
        · refine ⟨fun z => absurd ((nI_eq (by omega) (by omega)).mpr e) z, fun _ => ?_⟩
          conv => whnf
          exact ⟨⟨true, rfl, hT' _ _ _ (h2 e) _ _ g1 g2 (by omega) s1 s2⟩, trivial⟩
        · refine ⟨fun _ => ?_, fun z => absurd ((nI_eq (by omega) (by omega)).mp z) e⟩
          conv => whnf
          exact ⟨⟨false, rfl, hF' (h1 e) _ _ _ _ g1⟩, trivial⟩
      have hb1 := atc_lt hD ln (s_p0 (atc D ln) + s_ke (atc D ln) ln)
      have sdef : sp_says D ln = if atc D ln (s_p0 (atc D ln) + s_ke (atc D ln) ln) = 101 ∨ atc D ln (s_p0 (atc D ln) + s_ke (atc D ln) ln) = 69 then
          (if s_fg (atc D ln) ln < 1 ∨ 10 < s_fg (atc D ln) ln ∨ s_p3 (atc D ln) ln + s_fg (atc D ln) ln ≠ ln then none
           else some (decide (atc D ln 0 = 45), scv (atc D ln) (s_p0 (atc D ln)) (s_ke (atc D ln) ln), if atc D ln (s_p2 (atc D ln) ln) = 45 then (scf (atc D ln) (s_p0 (atc D ln)) (s_ke (atc D ln) ln) : Int) + exv (atc D ln) (s_p3 (atc D ln) ln) (s_fg (atc D ln) ln) else (scf (atc D ln) (s_p0 (atc D ln)) (s_ke (atc D ln) ln) : Int) - exv (atc D ln) (s_p3 (atc D ln) ln) (s_fg (atc D ln) ln)))
        else if s_p0 (atc D ln) + s_ke (atc D ln) ln = ln then some (decide (atc D ln 0 = 45), scv (atc D ln) (s_p0 (atc D ln)) (s_ke (atc D ln) ln), (scf (atc D ln) (s_p0 (atc D ln)) (s_ke (atc D ln) ln) : Int)) else none := by
        unfold sp_says sp_saysA
        rw [if_neg hz]
      have exq : (atc D ln (s_p0 (atc D ln) + s_ke (atc D ln) ln) = 101 ∨ atc D ln (s_p0 (atc D ln) + s_ke (atc D ln) ln) = 69) → zm_W l B gM m_Mo_says 200 [some (.ref 53), some (.int (nI (s_p0 (atc D ln) + s_ke (atc D ln) ln))), some (.int (bI (scp (atc D ln) (s_p0 (atc D ln)) (s_ke (atc D ln) ln)))), none, none, none, none] [] (mS t ln (scn (atc D ln) (s_p0 (atc D ln)) (s_ke (atc D ln) ln)) ((scf (atc D ln) (s_p0 (atc D ln)) (s_ke (atc D ln) ln) : Int)) (false) (decide (atc D ln 0 = 45)) ts us lz pr fa D K Mn Mi Sc (g') tp un lf pa) Q := by
        intro hc
        rw [if_pos hc] at sdef
        have hb2 := atc_lt hD ln (s_p2 (atc D ln) ln)
        obtain ⟨f1, f2, f3, f4⟩ := firstNot_spec (fun k => dgt (atc D ln (s_p3 (atc D ln) ln + k))) 11 0
        have fl2 : s_p2 (atc D ln) ln ≤ ln + 1 := by unfold s_p2; omega
        have fl3 : s_p3 (atc D ln) ln ≤ ln + 2 := by unfold s_p3; split <;> omega
        have hfg : s_fg (atc D ln) ln ≤ 11 := by unfold s_fg; omega
        have hdig : ∀ i, i < s_fg (atc D ln) ln → dgt (atc D ln (s_p3 (atc D ln) ln + i)) = true := fun i hi => f3 i (by omega) hi
        have hexv := exv_lt (atc D ln) (s_p3 (atc D ln) ln) (s_fg (atc D ln) ln) hdig
        have fin : zm_W l B gM m_Mo_says 293 [some (.ref 53), some (.int (nI (s_p3 (atc D ln) ln + s_fg (atc D ln) ln))), some (.int (bI (scp (atc D ln) (s_p0 (atc D ln)) (s_ke (atc D ln) ln)))), some (.int (bI (decide (atc D ln (s_p2 (atc D ln) ln) = 45)))), some (.long (lI (exv (atc D ln) (s_p3 (atc D ln) ln) (s_fg (atc D ln) ln) : Int))), none, some (.int (nI (s_fg (atc D ln) ln)))] [] (mS t ln (scn (atc D ln) (s_p0 (atc D ln)) (s_ke (atc D ln) ln)) ((scf (atc D ln) (s_p0 (atc D ln)) (s_ke (atc D ln) ln) : Int)) (false) (decide (atc D ln 0 = 45)) ts us lz pr fa D K Mn Mi Sc (g') tp un lf pa) Q := by
          refine zm_go (okm_Mo_says hG hl) [333] 200 ?_
          conv => whnf
          by_cases c1 : s_fg (atc D ln) ln < 1
          · rw [if_pos (Or.inl c1)] at sdef
            refine ⟨fun _ => ?_, fun z => absurd ((nI_ltI (b := 1) (by omega) (by decide)).mpr c1) z⟩
            conv => whnf
            exact ⟨⟨false, rfl, hF0 sdef _ _ _ _ g1⟩, trivial⟩
          · refine ⟨fun z => absurd ((nI_ltI (b := 1) (by omega) (by decide)).mp z) c1, fun _ => ?_⟩
            conv => whnf
            by_cases c2 : s_fg (atc D ln) ln ≤ 10
            · have hex2 : exv (atc D ln) (s_p3 (atc D ln) ln) (s_fg (atc D ln) ln) < 10000000000 := Nat.lt_of_lt_of_le hexv (Nat.le_trans (Nat.pow_le_pow_right (by decide) c2) (by decide))
              refine ⟨fun _ => ?_, fun z => absurd ((nI_leI (b := 10) (by omega) (by decide)).mpr c2) z⟩
              conv => whnf
              by_cases c3 : atc D ln (s_p2 (atc D ln) ln) = 45
              · rw [decide_eq_true c3]
                rw [if_pos c3] at sdef
                refine ⟨fun z => absurd z (by decide), fun _ => ?_⟩
                conv => whnf
                refine ⟨?_, trivial⟩
                try dsimp only
                rw [lI_add]
                refine e333 _ _ _ _ _ _ (by omega) (by omega) (by omega) (fun e => ?_) (fun e => ?_)
                · rw [sdef, if_pos (Or.inr (Or.inr e))]
                · rw [sdef, if_neg (by omega)]
              · rw [decide_eq_false c3]
                rw [if_neg c3] at sdef
                refine ⟨fun _ => ?_, fun z => absurd rfl z⟩
                conv => whnf
                refine ⟨?_, trivial⟩
                try dsimp only
                rw [lI_sub]
                refine e333 _ _ _ _ _ _ (by omega) (by omega) (by omega) (fun e => ?_) (fun e => ?_)
                · rw [sdef, if_pos (Or.inr (Or.inr e))]
                · rw [sdef, if_neg (by omega)]
            · rw [if_pos (Or.inr (Or.inl (by omega)))] at sdef
              refine ⟨fun z => absurd ((nI_leI (b := 10) (by omega) (by decide)).mp z) c2, fun _ => ?_⟩
              conv => whnf
              exact ⟨⟨false, rfl, hF0 sdef _ _ _ _ g1⟩, trivial⟩
        have lp : zm_W l B gM m_Mo_says 241 [some (.ref 53), some (.int (nI (s_p3 (atc D ln) ln))), some (.int (bI (scp (atc D ln) (s_p0 (atc D ln)) (s_ke (atc D ln) ln)))), some (.int (bI (decide (atc D ln (s_p2 (atc D ln) ln) = 45)))), none, none, none] [] (mS t ln (scn (atc D ln) (s_p0 (atc D ln)) (s_ke (atc D ln) ln)) ((scf (atc D ln) (s_p0 (atc D ln)) (s_ke (atc D ln) ln) : Int)) (false) (decide (atc D ln 0 = 45)) ts us lz pr fa D K Mn Mi Sc (g') tp un lf pa) Q := by
          refine zm_go (okm_Mo_says hG hl) [247] 200 ?_
          conv => whnf
          refine ⟨?_, trivial⟩
          try dsimp only
          refine w_says247 (p3 := s_p3 (atc D ln) ln) (m := s_fg (atc D ln) ln) hG hl hn hD (by omega) hfg hdig ?_ fin (s_fg (atc D ln) ln) 0 (by omega)
          rcases f4 with f4 | f4
          · exact Or.inl (by unfold s_fg; omega)
          · exact Or.inr f4
        unfold s_p3 at lp
        refine zm_go (okm_Mo_says hG hl) [241] 200 ?_
        conv => whnf
        rw [nI_1]
        refine k_at (p := s_p2 (atc D ln) ln) hG hl hn (by omega) ?_
        conv => whnf
        by_cases c3 : atc D ln (s_p2 (atc D ln) ln) = 45
        · rw [if_pos (Or.inl c3), decide_eq_true c3] at lp
          refine ⟨fun z => absurd ((nI_eq (b := 45) (by omega) (by decide)).mpr c3) z, fun _ => ?_⟩
          conv => whnf
          refine ⟨fun _ => ?_, fun z => absurd z (by decide)⟩
          conv => whnf
          refine ⟨?_, trivial⟩
          try dsimp only
          rw [nI_1]
          exact lp
        · refine ⟨fun _ => ?_, fun z => absurd ((nI_eq (b := 45) (by omega) (by decide)).mp z) c3⟩
          conv => whnf
          refine ⟨fun z => absurd rfl z, fun _ => ?_⟩
          conv => whnf
          refine k_at (p := s_p2 (atc D ln) ln) hG hl hn (by omega) ?_
          conv => whnf
          by_cases c4 : atc D ln (s_p2 (atc D ln) ln) = 43
          · rw [if_pos (Or.inr c4), decide_eq_false c3] at lp
            refine ⟨fun z => absurd ((nI_eq (b := 43) (by omega) (by decide)).mpr c4) z, fun _ => ?_⟩
            conv => whnf
            refine ⟨?_, trivial⟩
            try dsimp only
            rw [nI_1]
            exact lp
          · rw [if_neg (by omega), decide_eq_false c3] at lp
            refine ⟨fun _ => ?_, fun z => absurd ((nI_eq (b := 43) (by omega) (by decide)).mp z) c4⟩
            conv => whnf
            refine ⟨?_, trivial⟩
            try dsimp only
            exact lp
      refine zm_go (okm_Mo_says hG hl) [200, 333] 200 ?_
      conv => whnf
      refine ⟨fun _ => ?_, fun z => absurd ((nI_z (by omega)).mp z) hz⟩
      conv => whnf
      refine k_at hG hl hn (by omega) ?_
      conv => whnf
      by_cases c1 : atc D ln (s_p0 (atc D ln) + s_ke (atc D ln) ln) = 101
      · refine ⟨fun _ => ?_, fun z => absurd ((nI_eq (b := 101) (by omega) (by decide)).mpr c1) z⟩
        refine ⟨?_, trivial⟩
        try dsimp only
        exact exq (Or.inl c1)
      · refine ⟨fun z => absurd ((nI_eq (b := 101) (by omega) (by decide)).mp z) c1, fun _ => ?_⟩
        conv => whnf
        refine k_at hG hl hn (by omega) ?_
        conv => whnf
        by_cases c2 : atc D ln (s_p0 (atc D ln) + s_ke (atc D ln) ln) = 69
        · refine ⟨fun z => absurd ((nI_eq (b := 69) (by omega) (by decide)).mpr c2) z, fun _ => ?_⟩
          refine ⟨?_, trivial⟩
          try dsimp only
          exact exq (Or.inr c2)
        · refine ⟨fun _ => ?_, fun z => absurd ((nI_eq (b := 69) (by omega) (by decide)).mp z) c2⟩
          refine ⟨?_, trivial⟩
          try dsimp only
          rw [if_neg (by omega)] at sdef
          refine e333 _ _ _ _ _ _ (by omega) (by omega) (by omega) (fun e => ?_) (fun e => ?_)
          · rw [sdef, if_neg e]
          · rw [sdef, if_pos e]
  have start : zm_W l B gM m_Mo_says 25 [some (.ref 53), none, none, none, none, none, none] [.int (nI (s_p0 (atc D ln)))] (mS t ln sz sc mo be ts us lz pr fa D K Mn Mi Sc rw tp un lf pa) Q := by
    have l62 := w_says62 (Q := Q) (t := t) (ts := ts) (us := us) (lz := lz) (pr := pr) (fa := fa) (K := K) (Mn := Mn) (Mi := Mi) (Sc := Sc) (tp := tp) (un := un) (lf := lf) (pa := pa) (mo := false) (be := decide (atc D ln 0 = 45)) (p0 := s_p0 (atc D ln)) (m := s_ke (atc D ln) ln) hG hl hn hD k1 k2 k3 scan (s_ke (atc D ln) ln) 0 rw (by omega) hd rfl
    refine zm_go (okm_Mo_says hG hl) [62] 200 ?_
    conv => whnf
    refine k_at (p := 0) hG hl hn (by decide) ?_
    conv => whnf
    by_cases c1 : atc D ln 0 = 45
    · rw [decide_eq_true c1] at l62
      refine ⟨fun z => absurd ((nI_eq (b := 45) (by omega) (by decide)).mpr c1) z, fun _ => ?_⟩
      conv => whnf
      refine ⟨true, rfl, ?_⟩
      conv => whnf
      refine ⟨false, rfl, ?_⟩
      conv => whnf
      refine ⟨?_, trivial⟩
      try dsimp only
      exact l62
    · rw [decide_eq_false c1] at l62
      refine ⟨fun _ => ?_, fun z => absurd ((nI_eq (b := 45) (by omega) (by decide)).mp z) c1⟩
      conv => whnf
      refine ⟨false, rfl, ?_⟩
      conv => whnf
      refine ⟨false, rfl, ?_⟩
      conv => whnf
      refine ⟨?_, trivial⟩
      try dsimp only
      exact l62
  unfold s_p0 at start
  refine zm_go (okm_Mo_says hG hl) [25] 200 ?_
  conv => whnf
  refine k_at (p := 0) hG hl hn (by decide) ?_
  conv => whnf
  by_cases c1 : atc D ln 0 = 43
  · rw [if_pos (Or.inl c1)] at start
    refine ⟨fun _ => ?_, fun z => absurd ((nI_eq (b := 43) (by omega) (by decide)).mpr c1) z⟩
    conv => whnf
    refine ⟨?_, trivial⟩
    try dsimp only
    exact start
  · refine ⟨fun z => absurd ((nI_eq (b := 43) (by omega) (by decide)).mp z) c1, fun _ => ?_⟩
    conv => whnf
    refine k_at (p := 0) hG hl hn (by decide) ?_
    conv => whnf
    by_cases c2 : atc D ln 0 = 45
    · rw [if_pos (Or.inr c2)] at start
      refine ⟨fun z => absurd ((nI_eq (b := 45) (by omega) (by decide)).mpr c2) z, fun _ => ?_⟩
      conv => whnf
      refine ⟨?_, trivial⟩
      try dsimp only
      exact start
    · rw [if_neg (by omega)] at start
      refine ⟨fun _ => ?_, fun z => absurd ((nI_eq (b := 45) (by omega) (by decide)).mp z) c2⟩
      conv => whnf
      refine ⟨?_, trivial⟩
      try dsimp only
      exact start
/-- the outcome of read -/
theorem k_read (hG : zd_G B) (hl : l.stackTraces = false) {R : Nat → zr} (hR : ROk R) (hM : MR R K Mn Mi Sc) {to : Int} (hto : iR to) (hn : ln ≤ 1100) (hD : ∀ i, D i < 256) (hd : ∀ i, rw i < 10)
    (hb : (to < 0 ∨ 10 ≤ to) → Q none (mS (1) ln sz sc mo be ts us lz pr fa D K Mn Mi Sc rw tp un lf pa))
    (hs : ¬ (to < 0 ∨ 10 ≤ to) → sp_says D ln = none → Aft Q 2 ln pr fa D pa K Mn Mi Sc)
    (hq : ∀ T : Nat, to = T → T < 10 → ∀ ng V s, sp_says D ln = some (ng, V, s) → (∀ V' s', fin (some (V, s)) = some (V', s') → ∀ K' Mn' Mi' Sc', MR (zpu R T (ng && decide (V' ≠ 0), V', s')) K' Mn' Mi' Sc' → Aft Q 0 0 pr 3 D pa K' Mn' Mi' Sc') ∧ (fin (some (V, s)) = none → Aft Q 3 ln pr 3 D pa K Mn Mi Sc)) : zm_M l B gM m_Mo_read [.ref 53, .int (iI to)] (mS t ln sz sc mo be ts us lz pr fa D K Mn Mi Sc rw tp un lf pa) Q := by
  refine zm_go (okm_Mo_read hG hl) [] 200 ?_
  conv => whnf
  refine k_no hG hl hto ?_
  by_cases ca : to < 0 ∨ 10 ≤ to
  · rw [decide_eq_true ca]
    conv => whnf
    refine ⟨fun z => absurd z (by decide), fun _ => ?_⟩
    conv => whnf
    refine ⟨fun _ => ?_, fun z => absurd z (by decide)⟩
    conv => whnf
    exact ⟨hb ca, trivial⟩
  · rw [decide_eq_false ca]
    conv => whnf
    refine ⟨fun _ => ?_, fun z => absurd rfl z⟩
    conv => whnf
    refine k_says hG hl hn hD hd (fun e sz sc be g g1 => ?_) (fun ng V s e sz g g1 g2 g3 s1 s2 => ?_)
    · conv => whnf
      refine ⟨fun z => absurd rfl z, fun _ => ?_⟩
      conv => whnf
      refine ⟨fun _ => ?_, fun z => absurd z (by decide)⟩
      conv => whnf
      exact ⟨hs ca e _ _ _ _ _ _ _ _ _ _ _ g1, trivial⟩
    · obtain ⟨T, et, lt⟩ := iI_of_nat ca
      have hqq := hq T et lt ng V s e
      subst et
      conv => whnf
      refine ⟨fun _ => ?_, fun z => absurd z (by decide)⟩
      conv => whnf
      refine ⟨fun z => absurd rfl z, fun _ => ?_⟩
      conv => whnf
      rw [← iI_nI]
      refine k_storeA hG hl hR hM lt (by omega) g1 (by omega) ?_
      rw [g2]
      refine ⟨fun V' s' e' K' Mn' Mi' Sc' hm => ?_, fun e' => ?_⟩
      · have := hqq.1 V' s' e' K' Mn' Mi' Sc' hm
        intro sz sc mo be ts us lz rw' tp un lf q
        conv => whnf
        refine ⟨fun z => absurd rfl z, fun _ => ?_⟩
        conv => whnf
        exact ⟨this _ _ _ _ _ _ _ _ _ _ _ q, trivial⟩
      · have := hqq.2 e'
        intro sz sc mo be ts us lz rw' tp un lf q
        conv => whnf
        refine ⟨fun _ => ?_, fun z => absurd z (by decide)⟩
        conv => whnf
        exact ⟨this _ _ _ _ _ _ _ _ _ _ _ q, trivial⟩
end KY

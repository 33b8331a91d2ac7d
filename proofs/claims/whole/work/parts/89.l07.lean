/-! the draft -/
def dS (D : Nat → Nat) (ln : Nat) (ng : Bool) (fd eo dn df : Nat) (ex : Int) : zst := ([.ref 33, .int (nI ln), .int (bI ng), .int (nI fd), .int (nI eo), .int (nI dn), .int (nI df), .long (lI ex)], [fun i => nI (D i)])
section LG
variable {l : Launch} {B : zd_B} {Q : Option Value → zst → Prop} {D : Nat → Nat} {ln : Nat} {ng : Bool} {fd eo dn df : Nat} {ex : Int}
theorem d_byteAt (hG : zd_G B) (hl : l.stackTraces = false) {x : Int64} {i : Nat} (hi : i < 8) (hq : Q (some (.int (nI (byt x i)))) (dS D ln ng fd eo dn df ex)) : zm_M l B gD m_Dr_byteAt [.long x, .int (nI i)] (dS D ln ng fd eo dn df ex) Q := by
  have hb := byt_lt x i
  refine zm_go (okm_Dr_byteAt hG hl) [] 200 ?_
  conv => whnf
  rw [show (8 : Int32) * nI i = nI (8 * i) from lmul (a := 8), byt_c x hi, lN_i, i2c_m (by omega)]
  exact ⟨⟨byt x i, rfl, by omega, hq⟩, trivial⟩
theorem w_ap5 (hG : zd_G B) (hl : l.stackTraces = false) {x : Int64}
    (hq : zm_W l B gD m_Dr_append 35 [some (.ref 32), some (.long x), none, some (.int (nI (nzb x 8))), some (.int (nI 8)), none] [] (dS D ln ng fd eo dn df ex) Q) :
    ∀ (d i : Nat), i + d = 8 → zm_W l B gD m_Dr_append 5 [some (.ref 32), some (.long x), none, some (.int (nI (nzb x i))), some (.int (nI i)), none] [] (dS D ln ng fd eo dn df ex) Q := by
  intro d
  induction d with
  | zero =>
    intro i hi
    have e : i = 8 := by omega
    subst e
    refine zm_go (okm_Dr_append hG hl) [35] 200 ?_
    conv => whnf
    refine ⟨fun _ => ?_, fun z => absurd (by decide) z⟩
    refine ⟨?_, trivial⟩
    try dsimp only
    exact hq
  | succ d ih =>
    intro i hi
    have nx := ih (i + 1) (by omega)
    have ns : nzb x (i + 1) = nzb x i + (if byt x i = 0 then 0 else 1) := rfl
    have bl := byt_lt x i
    rw [ns] at nx
    refine zm_go (okm_Dr_append hG hl) [5] 200 ?_
    conv => whnf
    refine ⟨fun z => absurd ((nI_ge0 (b := 8) (by omega) (by decide)).mp z) (by omega), fun _ => ?_⟩
    conv => whnf
    refine d_byteAt hG hl (by omega) ?_
    conv => whnf
    by_cases hz : byt x i = 0
    · rw [if_pos hz] at nx
      refine ⟨fun _ => ?_, fun z => absurd ((nI_z (by omega)).mpr hz) z⟩
      conv => whnf
      refine ⟨?_, trivial⟩
      try dsimp only
      rw [nI_1, show nI (nzb x i) + 0 = nI (nzb x i + 0) from nI_add _ 0]
      exact nx
    · rw [if_neg hz] at nx
      refine ⟨fun z => absurd ((nI_z (by omega)).mp z) hz, fun _ => ?_⟩
      conv => whnf
      refine ⟨?_, trivial⟩
      try dsimp only
      rw [nI_1, nI_1]
      exact nx
theorem w_ap52 (hG : zd_G B) (hl : l.stackTraces = false) {x : Int64} {a3 : Int32} {D0 : Nat → Nat} {n0 : Nat} (hn : n0 + nzb x 8 ≤ 1100)
    (hq : Q (some (.int (nI (n0 + nzb x 8)))) (dS (wr x D0 n0 8).1 (n0 + nzb x 8) ng fd eo dn df ex)) :
    ∀ (d i : Nat) (a5 : Option Value), i + d = 8 → zm_W l B gD m_Dr_append 52 [some (.ref 32), some (.long x), none, some (.int a3), some (.int (nI i)), a5] [] (dS (wr x D0 n0 i).1 (wr x D0 n0 i).2 ng fd eo dn df ex) Q := by
  intro d
  induction d with
  | zero =>
    intro i a5 hi
    have e : i = 8 := by omega
    subst e
    rw [← wr_ln x D0] at hq
    refine zm_go (okm_Dr_append hG hl) [] 200 ?_
    conv => whnf
    refine ⟨fun _ => ?_, fun z => absurd (by decide) z⟩
    conv => whnf
    exact ⟨hq, trivial⟩
  | succ d ih =>
    intro i a5 hi
    have nx := fun a => ih (i + 1) a (by omega)
    have wl := wr_ln x D0 n0 i
    have nm := nzb_mono x (j := i + 1) (k := 8) (by omega)
    have ns : nzb x (i + 1) = nzb x i + (if byt x i = 0 then 0 else 1) := rfl
    have bl := byt_lt x i
    have ws : wr x D0 n0 (i + 1) = if byt x i = 0 then wr x D0 n0 i else (zu (wr x D0 n0 i).1 (wr x D0 n0 i).2 (byt x i), (wr x D0 n0 i).2 + 1) := rfl
    rw [ws] at nx
    refine zm_go (okm_Dr_append hG hl) [52] 200 ?_
    conv => whnf
    refine ⟨fun z => absurd ((nI_ge0 (b := 8) (by omega) (by decide)).mp z) (by omega), fun _ => ?_⟩
    conv => whnf
    refine d_byteAt hG hl (by omega) ?_
    conv => whnf
    by_cases hz : byt x i = 0
    · rw [if_pos hz] at nx
      refine ⟨fun _ => ?_, fun z => absurd ((nI_z (by omega)).mpr hz) z⟩
      conv => whnf
      refine ⟨?_, trivial⟩
      try dsimp only
      rw [nI_1]
      exact nx _
    · rw [if_neg hz] at nx ns
      refine ⟨fun z => absurd ((nI_z (by omega)).mp z) hz, fun _ => ?_⟩
      conv => whnf
      refine ⟨(wr x D0 n0 i).2, rfl, by omega, byt x i, rfl, by omega, ?_⟩
      conv => whnf
      refine ⟨?_, trivial⟩
      try dsimp only
      rw [nI_1, nI_1]
      rw [upd_nI]
      exact nx _
theorem d_append (hG : zd_G B) (hl : l.stackTraces = false) {x : Int64} (hn : ln ≤ 1100)
    (hf : 1100 < ln + nzb x 8 → Q (some (.int (-1))) (dS D ln ng fd eo dn df ex))
    (hq : ln + nzb x 8 ≤ 1100 → Q (some (.int (nI (ln + nzb x 8)))) (dS (wr x D ln 8).1 (ln + nzb x 8) ng fd eo dn df ex)) : zm_M l B gD m_Dr_append [.ref 32, .long x] (dS D ln ng fd eo dn df ex) Q := by
  have nl := nzb_le x 8
  refine zm_go (okm_Dr_append hG hl) [5] 200 ?_
  conv => whnf
  refine ⟨?_, trivial⟩
  try dsimp only
  refine w_ap5 hG hl ?_ 8 0 (by omega)
  refine zm_go (okm_Dr_append hG hl) [52] 200 ?_
  conv => whnf
  rw [nI_add]
  by_cases h : ln + nzb x 8 ≤ 1100
  · refine ⟨fun _ => ?_, fun z => absurd ((nI_leI (b := 1100) (by omega) (by decide)).mpr h) z⟩
    conv => whnf
    refine ⟨?_, trivial⟩
    try dsimp only
    exact w_ap52 (D0 := D) (n0 := ln) hG hl h (hq h) 8 0 none (by omega)
  · refine ⟨fun z => absurd ((nI_leI (b := 1100) (by omega) (by decide)).mp z) h, fun _ => ?_⟩
    conv => whnf
    exact ⟨hf (by omega), trivial⟩
theorem d_clear (hG : zd_G B) (hl : l.stackTraces = false) (hq : Q (some (.int (nI ln))) (dS D 0 ng fd eo dn df ex)) : zm_M l B gD m_Dr_clear [.ref 32] (dS D ln ng fd eo dn df ex) Q := by
  refine zm_go (okm_Dr_clear hG hl) [] 200 ?_
  conv => whnf
  exact ⟨hq, trivial⟩
theorem d_saysNegative (hG : zd_G B) (hl : l.stackTraces = false) (hq : Q (some (.int (bI ng))) (dS D ln ng fd eo dn df ex)) : zm_M l B gD m_Dr_saysNegative [.ref 32] (dS D ln ng fd eo dn df ex) Q := by
  refine zm_go (okm_Dr_saysNegative hG hl) [] 200 ?_
  conv => whnf
  exact ⟨⟨ng, rfl, hq⟩, trivial⟩
theorem d_saidScale (hG : zd_G B) (hl : l.stackTraces = false) (hdf : df ≤ 1100) (hq : Q (some (.long (lI ((df : Int) - ex)))) (dS D ln ng fd eo dn df ex)) : zm_M l B gD m_Dr_saidScale [.ref 32] (dS D ln ng fd eo dn df ex) Q := by
  refine zm_go (okm_Dr_saidScale hG hl) [] 200 ?_
  conv => whnf
  rw [iI_nI df, iI_l ⟨by omega, by omega⟩, lI_sub]
  exact ⟨hq, trivial⟩
theorem d_isDigit (hG : zd_G B) (hl : l.stackTraces = false) {c : Nat} (hc : c < 100000) (hq : Q (some (.int (bI (dgt c)))) (dS D ln ng fd eo dn df ex)) : zm_M l B gD m_Dr_isDigit [.int (nI c)] (dS D ln ng fd eo dn df ex) Q := by
  unfold dgt at hq
  refine zm_go (okm_Dr_isDigit hG hl) [] 200 ?_
  conv => whnf
  by_cases h1 : c < 48
  · rw [decide_eq_false (by omega)] at hq
    refine ⟨fun _ => ?_, fun z => absurd ((nI_ltI (b := 48) (by omega) (by decide)).mpr h1) z⟩
    conv => whnf
    exact ⟨⟨false, rfl, hq⟩, trivial⟩
  · refine ⟨fun z => absurd ((nI_ltI (b := 48) (by omega) (by decide)).mp z) h1, fun _ => ?_⟩
    conv => whnf
    by_cases h2 : 57 < c
    · rw [decide_eq_false (by omega)] at hq
      refine ⟨fun _ => ?_, fun z => absurd ((nI_ltI (a := 57) (by decide) (by omega)).mpr h2) z⟩
      conv => whnf
      exact ⟨⟨false, rfl, hq⟩, trivial⟩
    · rw [decide_eq_true (by omega)] at hq
      refine ⟨fun z => absurd ((nI_ltI (a := 57) (by decide) (by omega)).mp z) h2, fun _ => ?_⟩
      conv => whnf
      exact ⟨⟨true, rfl, hq⟩, trivial⟩
theorem atc_in {D : Nat → Nat} {ln p : Nat} (h : p < ln) : atc D ln p = D p := if_pos h
theorem d_behindSign (hG : zd_G B) (hl : l.stackTraces = false) {p : Nat} (hn : ln ≤ 1100) (hp : p < 100000) (hD : ∀ i, D i < 256)
    (hq : Q (some (.int (nI (if atc D ln p = 43 ∨ atc D ln p = 45 then p + 1 else p)))) (dS D ln ng fd eo dn df ex)) : zm_M l B gD m_Dr_behindSign [.ref 32, .int (nI p)] (dS D ln ng fd eo dn df ex) Q := by
  have hb := hD p
  refine zm_go (okm_Dr_behindSign hG hl) [] 200 ?_
  conv => whnf
  by_cases h1 : ln ≤ p
  · rw [atc_out h1, if_neg (by decide)] at hq
    refine ⟨fun _ => ?_, fun z => absurd ((nI_leI (by omega) (by omega)).mpr h1) z⟩
    conv => whnf
    exact ⟨hq, trivial⟩
  · rw [atc_in (by omega)] at hq
    refine ⟨fun z => absurd ((nI_leI (by omega) (by omega)).mp z) h1, fun _ => ?_⟩
    conv => whnf
    refine ⟨p, rfl, by omega, ?_⟩
    conv => whnf
    by_cases h2 : D p = 43
    · rw [if_pos (Or.inl h2)] at hq
      refine ⟨fun _ => ?_, fun z => absurd ((nI_eq (b := 43) (by omega) (by decide)).mpr h2) z⟩
      conv => whnf
      rw [nI_1]
      exact ⟨hq, trivial⟩
    · refine ⟨fun z => absurd ((nI_eq (b := 43) (by omega) (by decide)).mp z) h2, fun _ => ?_⟩
      conv => whnf
      refine ⟨p, rfl, by omega, ?_⟩
      conv => whnf
      by_cases h3 : D p = 45
      · rw [if_pos (Or.inr h3)] at hq
        refine ⟨fun z => absurd ((nI_eq (b := 45) (by omega) (by decide)).mpr h3) z, fun _ => ?_⟩
        conv => whnf
        rw [nI_1]
        exact ⟨hq, trivial⟩
      · rw [if_neg (by omega)] at hq
        refine ⟨fun _ => ?_, fun z => absurd ((nI_eq (b := 45) (by omega) (by decide)).mp z) h3⟩
        conv => whnf
        exact ⟨hq, trivial⟩
theorem w_scan (hG : zd_G B) (hl : l.stackTraces = false) {e : Nat} (hn : ln ≤ 1100) (hD : ∀ i, D i < 256) (he : fd + e ≤ ln) (h1 : ∀ k, k < e → sco (atc D ln) fd k = true) (h2 : sco (atc D ln) fd e = false)
    (hq : Q none (dS D ln ng fd (fd + e) (scn (atc D ln) fd e) (scf (atc D ln) fd e) ex)) :
    ∀ (d k : Nat), k + d = e → zm_W l B gD m_Dr_scanDigits 17 [some (.ref 32), some (.int (bI (scp (atc D ln) fd k))), some (.int (nI (fd + k)))] [] (dS D ln ng fd eo (scn (atc D ln) fd k) (scf (atc D ln) fd k) ex) Q := by
  intro d
  induction d with
  | zero =>
    intro k hk
    have e0 : k = e := by omega
    subst e0
    have hb := hD (fd + k)
    have exit : zm_W l B gD m_Dr_scanDigits 102 [some (.ref 32), some (.int (bI (scp (atc D ln) fd k))), some (.int (nI (fd + k)))] [] (dS D ln ng fd eo (scn (atc D ln) fd k) (scf (atc D ln) fd k) ex) Q := by
      refine zm_go (okm_Dr_scanDigits hG hl) [] 200 ?_
      conv => whnf
      exact ⟨hq, trivial⟩
    refine zm_go (okm_Dr_scanDigits hG hl) [102] 200 ?_
    conv => whnf
    by_cases hin : ln ≤ fd + k
    · refine ⟨fun _ => ?_, fun z => absurd ((nI_leI (by omega) (by omega)).mpr hin) z⟩
      refine ⟨?_, trivial⟩
      try dsimp only
      exact exit
    · refine ⟨fun z => absurd ((nI_leI (by omega) (by omega)).mp z) hin, fun _ => ?_⟩
      unfold sco at h2
      rw [atc_in (by omega)] at h2
      rw [Bool.or_eq_false_iff] at h2
      conv => whnf
      refine ⟨(fd + k), rfl, by omega, ?_⟩
      conv => whnf
      refine d_isDigit hG hl (by omega) ?_
      rw [h2.1]
      conv => whnf
      refine ⟨fun z => absurd rfl z, fun _ => ?_⟩
      conv => whnf
      refine ⟨(fd + k), rfl, by omega, ?_⟩
      conv => whnf
      by_cases h46 : D (fd + k) = 46
      · refine ⟨fun z => absurd ((nI_eq (b := 46) (by omega) (by decide)).mpr h46) z, fun _ => ?_⟩
        have h3 := h2.2
        rw [decide_eq_true h46, Bool.true_and] at h3
        have h4 : scp (atc D ln) fd k = true := by cases hc : scp (atc D ln) fd k; rw [hc] at h3; cases h3; rfl
        conv => whnf
        refine ⟨fun _ => ?_, fun z => absurd z (by rw [h4]; decide)⟩
        refine ⟨?_, trivial⟩
        try dsimp only
        exact exit
      · refine ⟨fun _ => ?_, fun z => absurd ((nI_eq (b := 46) (by omega) (by decide)).mp z) h46⟩
        refine ⟨?_, trivial⟩
        try dsimp only
        exact exit
  | succ d ih =>
    intro k hk
    have nx := ih (k + 1) (by omega)
    have hs := h1 k (by omega)
    have hb := hD (fd + k)
    have ep : scp (atc D ln) fd (k + 1) = (scp (atc D ln) fd k || decide (atc D ln (fd + k) = 46)) := rfl
    have en : scn (atc D ln) fd (k + 1) = scn (atc D ln) fd k + (if atc D ln (fd + k) = 46 then 0 else 1) := rfl
    have ef : scf (atc D ln) fd (k + 1) = scf (atc D ln) fd k + (if atc D ln (fd + k) = 46 then 0 else if scp (atc D ln) fd k then 1 else 0) := rfl
    rw [ep, en, ef, atc_in (by omega), ← Nat.add_assoc] at nx
    unfold sco at hs
    rw [atc_in (by omega)] at hs
    have step : zm_W l B gD m_Dr_scanDigits 52 [some (.ref 32), some (.int (bI (scp (atc D ln) fd k))), some (.int (nI (fd + k)))] [] (dS D ln ng fd eo (scn (atc D ln) fd k) (scf (atc D ln) fd k) ex) Q := by
      refine zm_go (okm_Dr_scanDigits hG hl) [17] 200 ?_
      conv => whnf
      refine ⟨(fd + k), rfl, by omega, ?_⟩
      conv => whnf
      by_cases h46 : D (fd + k) = 46
      · rw [if_pos h46, if_pos h46, decide_eq_true h46, Bool.or_true] at nx
        refine ⟨fun z => absurd ((nI_eq (b := 46) (by omega) (by decide)).mpr h46) z, fun _ => ?_⟩
        conv => whnf
        refine ⟨?_, trivial⟩
        try dsimp only
        rw [nI_1]
        exact nx
      · rw [if_neg h46, if_neg h46, decide_eq_false h46, Bool.or_false] at nx
        refine ⟨fun _ => ?_, fun z => absurd ((nI_eq (b := 46) (by omega) (by decide)).mp z) h46⟩
        conv => whnf
        cases hc : scp (atc D ln) fd k
        · rw [hc] at nx
          refine ⟨fun _ => ?_, fun z => absurd rfl z⟩
          conv => whnf
          refine ⟨?_, trivial⟩
          try dsimp only
          rw [nI_1, nI_1, show nI (scf (atc D ln) fd k) + 0 = nI (scf (atc D ln) fd k + 0) from nI_add _ 0]
          exact nx
        · rw [hc] at nx
          refine ⟨fun z => absurd z (by decide), fun _ => ?_⟩
          conv => whnf
          refine ⟨?_, trivial⟩
          try dsimp only
          rw [nI_1, nI_1, nI_1]
          exact nx
    refine zm_go (okm_Dr_scanDigits hG hl) [52] 200 ?_
    conv => whnf
    refine ⟨fun z => absurd ((nI_leI (by omega) (by omega)).mp z) (by omega), fun _ => ?_⟩
    conv => whnf
    refine ⟨(fd + k), rfl, by omega, ?_⟩
    conv => whnf
    refine d_isDigit hG hl (by omega) ?_
    conv => whnf
    cases hdg : dgt (D (fd + k))
    · rw [hdg, Bool.false_or, Bool.and_eq_true] at hs
      have h46 := of_decide_eq_true hs.1
      have hc : scp (atc D ln) fd k = false := by cases hc : scp (atc D ln) fd k; rfl; rw [hc] at hs; exact absurd hs.2 (by decide)
      refine ⟨fun z => absurd rfl z, fun _ => ?_⟩
      conv => whnf
      refine ⟨(fd + k), rfl, by omega, ?_⟩
      conv => whnf
      refine ⟨fun z => absurd ((nI_eq (b := 46) (by omega) (by decide)).mpr h46) z, fun _ => ?_⟩
      conv => whnf
      refine ⟨fun z => absurd (by rw [hc]; rfl) z, fun _ => ?_⟩
      refine ⟨?_, trivial⟩
      try dsimp only
      exact step
    · refine ⟨fun _ => ?_, fun z => absurd z (by decide)⟩
      refine ⟨?_, trivial⟩
      try dsimp only
      exact step
theorem d_scanDigits (hG : zd_G B) (hl : l.stackTraces = false) {e : Nat} (hn : ln ≤ 1100) (hD : ∀ i, D i < 256) (he : fd + e ≤ ln) (h1 : ∀ k, k < e → sco (atc D ln) fd k = true) (h2 : sco (atc D ln) fd e = false)
    (hq : Q none (dS D ln ng fd (fd + e) (scn (atc D ln) fd e) (scf (atc D ln) fd e) ex)) : zm_M l B gD m_Dr_scanDigits [.ref 32] (dS D ln ng fd eo dn df ex) Q := by
  refine zm_go (okm_Dr_scanDigits hG hl) [17] 200 ?_
  conv => whnf
  refine ⟨?_, trivial⟩
  try dsimp only
  exact w_scan hG hl hn hD he h1 h2 hq e 0 (by omega)
theorem w_exp (hG : zd_G B) (hl : l.stackTraces = false) {p3 n : Nat} {x1 : Int32} (hn : ln ≤ 1100) (hD : ∀ i, D i < 256) (hp3 : p3 + n = ln) (hn10 : n ≤ 10)
    (hF : (∃ i, i < n ∧ dgt (D (p3 + i)) = false) → Q (some (.int (bI false))) (dS D ln ng fd eo dn df ex))
    (hT : (∀ i, i < n → dgt (D (p3 + i)) = true) → zm_W l B gD m_Dr_scanExponent 117 [some (.ref 32), some (.int x1), some (.int (nI p3)), some (.long (lI (exv D p3 n : Int))), none, some (.int (nI ln))] [] (dS D ln ng fd eo dn df ex) Q) :
    ∀ (d k : Nat), k + d = n → (∀ i, i < k → dgt (D (p3 + i)) = true) → zm_W l B gD m_Dr_scanExponent 69 [some (.ref 32), some (.int x1), some (.int (nI p3)), some (.long (lI (exv D p3 k : Int))), none, some (.int (nI (p3 + k)))] [] (dS D ln ng fd eo dn df ex) Q := by
  intro d
  induction d with
  | zero =>
    intro k hk hall
    have e : k = n := by omega
    subst e
    have hT := hT hall
    refine zm_go (okm_Dr_scanExponent hG hl) [117] 200 ?_
    conv => whnf
    refine ⟨fun _ => ?_, fun z => absurd ((nI_leI (by omega) (by omega)).mpr (by omega)) z⟩
    refine ⟨?_, trivial⟩
    try dsimp only
    rw [hp3]
    exact hT
  | succ d ih =>
    intro k hk hall
    have hb := hD (p3 + k)
    have hlt : exv D p3 k < 10 ^ 10 := Nat.lt_of_lt_of_le (exv_lt D p3 k hall) (Nat.pow_le_pow_right (by decide) (by omega))
    refine zm_go (okm_Dr_scanExponent hG hl) [69] 200 ?_
    conv => whnf
    refine ⟨fun z => absurd ((nI_leI (by omega) (by omega)).mp z) (by omega), fun _ => ?_⟩
    conv => whnf
    refine ⟨(p3 + k), rfl, by omega, ?_⟩
    conv => whnf
    refine d_isDigit hG hl (by omega) ?_
    conv => whnf
    cases hdg : dgt (D (p3 + k))
    · refine ⟨fun z => absurd rfl z, fun _ => ?_⟩
      conv => whnf
      exact ⟨⟨false, rfl, hF ⟨k, by omega, hdg⟩⟩, trivial⟩
    · refine ⟨fun _ => ?_, fun z => absurd z (by decide)⟩
      have hdg2 := hdg
      unfold dgt at hdg2
      have hc := of_decide_eq_true hdg2
      conv => whnf
      refine ⟨(p3 + k), rfl, by omega, ?_⟩
      conv => whnf
      refine ⟨?_, trivial⟩
      try dsimp only
      rw [show nI (D (p3 + k)) - 48 = nI (D (p3 + k) - 48) from nI_sub (b := 48) hc.1, iI_nI (D (p3 + k) - 48), iI_l ⟨by omega, by omega⟩, show (10 : Int64) = lI 10 from rfl, lI_mul, lI_add, nI_1]
      have ee : (exv D p3 k : Int) * 10 + ((D (p3 + k) - 48 : Nat) : Int) = (exv D p3 (k + 1) : Int) := by
        show _ = ((exv D p3 k * 10 + (D (p3 + k) - 48) : Nat) : Int)
        omega
      rw [ee]
      refine ih (k + 1) (by omega) (fun i hi => ?_)
      by_cases q : i = k
      · rw [q]; exact hdg
      · exact hall i (by omega)
theorem d_scanExponent (hG : zd_G B) (hl : l.stackTraces = false) {e p3 : Nat} (hn : ln ≤ 1100) (hD : ∀ i, D i < 256) (he : e < ln) (hp3 : p3 = if atc D ln (e + 1) = 43 ∨ atc D ln (e + 1) = 45 then e + 2 else e + 1)
    (hF : (¬ (D e = 101 ∨ D e = 69) ∨ ln ≤ p3 ∨ 10 < ln - p3 ∨ ∃ i, p3 + i < ln ∧ dgt (D (p3 + i)) = false) → Q (some (.int (bI false))) (dS D ln ng fd e dn df ex))
    (hT : (D e = 101 ∨ D e = 69) → p3 < ln → ln - p3 ≤ 10 → (∀ i, i < ln - p3 → dgt (D (p3 + i)) = true) → Q (some (.int (bI true))) (dS D ln ng fd e dn df (if atc D ln (e + 1) = 45 then -(exv D p3 (ln - p3) : Int) else (exv D p3 (ln - p3) : Int)))) : zm_M l B gD m_Dr_scanExponent [.ref 32] (dS D ln ng fd e dn df ex) Q := by
  have hb := hD e
  have main : (D e = 101 ∨ D e = 69) → zm_W l B gD m_Dr_scanExponent 37 [some (.ref 32), some (.int (nI (e + 1))), none, none, none, none] [] (dS D ln ng fd e dn df ex) Q := by
    intro hE
    refine zm_go (okm_Dr_scanExponent hG hl) [69] 200 ?_
    conv => whnf
    refine d_behindSign hG hl hn (by omega) hD ?_
    rw [show (if atc D ln (e + 1) = 43 ∨ atc D ln (e + 1) = 45 then e + 1 + 1 else e + 1) = p3 from hp3.symm]
    have hp4 : p3 ≤ e + 2 ∧ e + 1 ≤ p3 := by rw [hp3]; split <;> omega
    conv => whnf
    by_cases h1 : ln ≤ p3
    · refine ⟨fun _ => ?_, fun z => absurd ((nI_leI (by omega) (by omega)).mpr h1) z⟩
      conv => whnf
      exact ⟨⟨false, rfl, hF (Or.inr (Or.inl h1))⟩, trivial⟩
    · refine ⟨fun z => absurd ((nI_leI (by omega) (by omega)).mp z) h1, fun _ => ?_⟩
      conv => whnf
      rw [nI_sub (by omega)]
      by_cases h2 : ln - p3 ≤ 10
      · refine ⟨fun _ => ?_, fun z => absurd ((nI_leI (b := 10) (by omega) (by decide)).mpr h2) z⟩
        conv => whnf
        refine ⟨?_, trivial⟩
        try dsimp only
        refine w_exp hG hl (p3 := p3) (n := ln - p3) hn hD (by omega) h2 (fun ⟨i, q1, q2⟩ => hF (Or.inr (Or.inr (Or.inr ⟨i, by omega, q2⟩)))) (fun hall => ?_) (ln - p3) 0 (by omega) (fun i hi => by omega)
        have hT := hT hE (by omega) h2 hall
        have hlt : exv D p3 (ln - p3) < 10 ^ 10 := Nat.lt_of_lt_of_le (exv_lt D p3 _ hall) (Nat.pow_le_pow_right (by decide) h2)
        refine zm_go (okm_Dr_scanExponent hG hl) [] 200 ?_
        conv => whnf
        by_cases h3 : atc D ln (e + 1) = 43 ∨ atc D ln (e + 1) = 45
        · rw [if_pos h3] at hp3
          have hin : e + 1 < ln := by omega
          rw [atc_in hin] at hT h3
          have hb1 := hD (e + 1)
          refine ⟨fun z => absurd ((nI_leI (by omega) (by omega)).mp z) (by omega), fun _ => ?_⟩
          conv => whnf
          refine ⟨(e + 1), rfl, by omega, ?_⟩
          conv => whnf
          by_cases h4 : D (e + 1) = 45
          · rw [if_pos h4] at hT
            refine ⟨fun z => absurd ((nI_eq (b := 45) (by omega) (by decide)).mpr h4) z, fun _ => ?_⟩
            conv => whnf
            rw [lI_neg]
            exact ⟨⟨true, rfl, hT⟩, trivial⟩
          · rw [if_neg h4] at hT
            refine ⟨fun _ => ?_, fun z => absurd ((nI_eq (b := 45) (by omega) (by decide)).mp z) h4⟩
            conv => whnf
            exact ⟨⟨true, rfl, hT⟩, trivial⟩
        · rw [if_neg h3] at hp3
          rw [if_neg (fun q => h3 (Or.inr q))] at hT
          refine ⟨fun _ => ?_, fun z => absurd ((nI_leI (by omega) (by omega)).mpr (by omega)) z⟩
          conv => whnf
          exact ⟨⟨true, rfl, hT⟩, trivial⟩
      · refine ⟨fun z => absurd ((nI_leI (b := 10) (by omega) (by decide)).mp z) h2, fun _ => ?_⟩
        conv => whnf
        exact ⟨⟨false, rfl, hF (Or.inr (Or.inr (Or.inl (by omega))))⟩, trivial⟩
  refine zm_go (okm_Dr_scanExponent hG hl) [37] 200 ?_
  conv => whnf
  refine ⟨e, rfl, by omega, ?_⟩
  conv => whnf
  by_cases h1 : D e = 101
  · refine ⟨fun _ => ?_, fun z => absurd ((nI_eq (b := 101) (by omega) (by decide)).mpr h1) z⟩
    refine ⟨?_, trivial⟩
    try dsimp only
    rw [nI_1]
    exact main (Or.inl h1)
  · refine ⟨fun z => absurd ((nI_eq (b := 101) (by omega) (by decide)).mp z) h1, fun _ => ?_⟩
    conv => whnf
    refine ⟨e, rfl, by omega, ?_⟩
    conv => whnf
    by_cases h2 : D e = 69
    · refine ⟨fun _ => ?_, fun z => absurd ((nI_eq (b := 69) (by omega) (by decide)).mpr h2) z⟩
      refine ⟨?_, trivial⟩
      try dsimp only
      rw [nI_1]
      exact main (Or.inr h2)
    · refine ⟨fun z => absurd ((nI_eq (b := 69) (by omega) (by decide)).mp z) h2, fun _ => ?_⟩
      conv => whnf
      exact ⟨⟨false, rfl, hF (Or.inl (by omega))⟩, trivial⟩
theorem exv_atc {D : Nat → Nat} {ln p : Nat} : ∀ n, p + n ≤ ln → exv (atc D ln) p n = exv D p n := by
  intro n
  induction n with
  | zero => intro _; rfl
  | succ n ih =>
    intro h
    show exv (atc D ln) p n * 10 + (atc D ln (p + n) - 48) = exv D p n * 10 + (D (p + n) - 48)
    rw [ih (by omega), atc_in (by omega)]
/-- with true, what the text says is known -/
theorem d_isNumberText (hG : zd_G B) (hl : l.stackTraces = false) (hn : ln ≤ 1100) (hD : ∀ i, D i < 256)
    (hF : sp_says D ln = none → ∀ ng fd eo dn df ex, Q (some (.int (bI false))) (dS D ln ng fd eo dn df ex))
    (hT : ∀ (n : Bool) (V : Nat) (s : Int), sp_says D ln = some (n, V, s) → ∀ fd e ex, fd + e ≤ ln → (∀ k, k < e → sco (atc D ln) fd k = true) → V = scv (atc D ln) fd e → s = (scf (atc D ln) fd e : Int) - ex → -20000000000 < ex → ex < 20000000000 → scn (atc D ln) fd e ≠ 0 → Q (some (.int (bI true))) (dS D ln n fd (fd + e) (scn (atc D ln) fd e) (scf (atc D ln) fd e) ex)) : zm_M l B gD m_Dr_isNumberText [.ref 32] (dS D ln ng fd eo dn df ex) Q := by
  obtain ⟨k1, k2, k3⟩ := ke_spec D ln
  have hb0 := hD 0
  have e0 : (if atc D ln 0 = 43 ∨ atc D ln 0 = 45 then 0 + 1 else 0) = s_p0 (atc D ln) := rfl
  have main : zm_W l B gD m_Dr_isNumberText 33 [some (.ref 32)] [.int (bI (decide (atc D ln 0 = 45))), .ref 32] (dS D ln ng (s_p0 (atc D ln)) eo dn df ex) Q := by
    obtain ⟨nl, fl⟩ := scn_le (atc D ln) (s_p0 (atc D ln)) (s_ke (atc D ln) ln)
    have hF0 := hF
    unfold sp_says sp_saysA at hF
    have hT0 : ∀ (s : Int) (ex : Int), sp_says D ln = some (decide (atc D ln 0 = 45), scv (atc D ln) (s_p0 (atc D ln)) (s_ke (atc D ln) ln), s) → s = (scf (atc D ln) (s_p0 (atc D ln)) (s_ke (atc D ln) ln) : Int) - ex → -20000000000 < ex → ex < 20000000000 → scn (atc D ln) (s_p0 (atc D ln)) (s_ke (atc D ln) ln) ≠ 0 → Q (some (.int (bI true))) (dS D ln (decide (atc D ln 0 = 45)) (s_p0 (atc D ln)) (s_p0 (atc D ln) + s_ke (atc D ln) ln) (scn (atc D ln) (s_p0 (atc D ln)) (s_ke (atc D ln) ln)) (scf (atc D ln) (s_p0 (atc D ln)) (s_ke (atc D ln) ln)) ex) :=
      fun s ex h1 h2 h3 h4 h5 => hT _ _ _ h1 _ _ _ k1 k2 rfl h2 h3 h4 h5
    unfold sp_says sp_saysA at hT0
    refine zm_go (okm_Dr_isNumberText hG hl) [] 200 ?_
    conv => whnf
    refine ⟨decide (atc D ln 0 = 45), rfl, ?_⟩
    conv => whnf
    refine d_scanDigits hG hl hn hD k1 k2 k3 ?_
    conv => whnf
    by_cases hz : scn (atc D ln) (s_p0 (atc D ln)) (s_ke (atc D ln) ln) = 0
    · rw [if_pos hz] at hF
      refine ⟨fun z => absurd ((nI_z (by omega)).mpr hz) z, fun _ => ?_⟩
      conv => whnf
      exact ⟨⟨false, rfl, hF rfl _ _ _ _ _ 0⟩, trivial⟩
    · rw [if_neg hz] at hF hT0
      refine ⟨fun _ => ?_, fun z => absurd ((nI_z (by omega)).mp z) hz⟩
      conv => whnf
      by_cases hend : s_p0 (atc D ln) + s_ke (atc D ln) ln = ln
      · have hno : ¬ (atc D ln (s_p0 (atc D ln) + s_ke (atc D ln) ln) = 101 ∨ atc D ln (s_p0 (atc D ln) + s_ke (atc D ln) ln) = 69) := by
          rw [atc_out (by omega)]
          decide
        rw [if_neg hno, if_pos hend] at hT0
        refine ⟨fun _ => ?_, fun z => absurd ((nI_eq (by omega) (by omega)).mpr hend) z⟩
        conv => whnf
        exact ⟨⟨true, rfl, hT0 _ 0 rfl (by omega) (by decide) (by decide) hz⟩, trivial⟩
      · refine ⟨fun z => absurd ((nI_eq (by omega) (by omega)).mp z) hend, fun _ => ?_⟩
        rw [if_neg hend] at hF hT0
        have hin : s_p0 (atc D ln) + s_ke (atc D ln) ln < ln := by omega
        have e3 : s_p3 (atc D ln) ln = if atc D ln (s_p0 (atc D ln) + s_ke (atc D ln) ln + 1) = 43 ∨ atc D ln (s_p0 (atc D ln) + s_ke (atc D ln) ln + 1) = 45 then s_p0 (atc D ln) + s_ke (atc D ln) ln + 2 else s_p0 (atc D ln) + s_ke (atc D ln) ln + 1 := by
          unfold s_p3 s_p2
          by_cases c1 : atc D ln (s_p0 (atc D ln) + s_ke (atc D ln) ln + 1) = 43 ∨ atc D ln (s_p0 (atc D ln) + s_ke (atc D ln) ln + 1) = 45
          · rw [if_pos c1, if_pos c1.symm]
          · rw [if_neg c1, if_neg (fun q => c1 q.symm)]
        have e2 : s_p2 (atc D ln) ln = s_p0 (atc D ln) + s_ke (atc D ln) ln + 1 := rfl
        rw [e2] at hT0
        obtain ⟨g1, g2, g3, g4⟩ := firstNot_spec (fun k => dgt (atc D ln (s_p3 (atc D ln) ln + k))) 11 0
        have eg : firstNot (fun k => dgt (atc D ln (s_p3 (atc D ln) ln + k))) 11 0 = s_fg (atc D ln) ln := rfl
        rw [eg] at g2 g3 g4
        rw [atc_in hin] at hF hT0
        conv => whnf
        refine d_scanExponent (ex := 0) hG hl hn hD hin e3 (fun hc => ?_) (fun hE h1 h2 hall => ?_)
        · conv => whnf
          refine ⟨fun _ => ?_, fun z => absurd rfl z⟩
          conv => whnf
          refine ⟨⟨false, rfl, hF ?_ _ _ _ _ _ _⟩, trivial⟩
          by_cases hE : D (s_p0 (atc D ln) + s_ke (atc D ln) ln) = 101 ∨ D (s_p0 (atc D ln) + s_ke (atc D ln) ln) = 69
          · rw [if_pos hE, if_pos]
            rcases hc with q | q | q | ⟨i, q, r⟩
            · exact absurd hE q
            · left
              rcases Nat.eq_zero_or_pos (s_fg (atc D ln) ln) with z | z
              · omega
              · have := g3 0 (by omega) (by omega)
                try dsimp only at this
                rw [atc_out (by omega)] at this
                exact absurd this (by decide)
            · rcases Nat.lt_or_ge 10 (s_fg (atc D ln) ln) with z | z
              · exact Or.inr (Or.inl z)
              · exact Or.inr (Or.inr (by omega))
            · rcases Nat.lt_or_ge 10 (s_fg (atc D ln) ln) with z | z
              · exact Or.inr (Or.inl z)
              · refine Or.inr (Or.inr (fun w => ?_))
                have := g3 i (by omega) (by omega)
                try dsimp only at this
                rw [atc_in q, r] at this
                cases this
          · rw [if_neg hE]
        · have hfg : s_fg (atc D ln) ln = ln - s_p3 (atc D ln) ln := by
            rcases Nat.lt_trichotomy (s_fg (atc D ln) ln) (ln - s_p3 (atc D ln) ln) with q | q | q
            · exfalso
              rcases g4 with w | w
              · omega
              · have := hall _ q
                try dsimp only at w
                rw [atc_in (by omega)] at w
                rw [this] at w
                cases w
            · exact q
            · exfalso
              have := g3 (ln - s_p3 (atc D ln) ln) (by omega) q
              try dsimp only at this
              rw [atc_out (by omega)] at this
              exact absurd this (by decide)
          have hlt : exv D (s_p3 (atc D ln) ln) (ln - s_p3 (atc D ln) ln) < 10 ^ 10 := Nat.lt_of_lt_of_le (exv_lt D _ _ hall) (Nat.pow_le_pow_right (by decide) h2)
          rw [if_pos hE, hfg, if_neg (by omega), exv_atc _ (by omega)] at hT0
          conv => whnf
          refine ⟨fun z => absurd z (by decide), fun _ => ?_⟩
          conv => whnf
          refine ⟨⟨true, rfl, hT0 _ _ rfl ?_ ?_ ?_ hz⟩, trivial⟩
          · split <;> omega
          · split <;> omega
          · split <;> omega
  refine zm_go (okm_Dr_isNumberText hG hl) [33] 200 ?_
  conv => whnf
  refine d_behindSign hG hl hn (by decide) hD ?_
  rw [e0]
  have hp0 : s_p0 (atc D ln) = if atc D ln 0 = 43 ∨ atc D ln 0 = 45 then 1 else 0 := rfl
  conv => whnf
  by_cases h1 : atc D ln 0 = 43 ∨ atc D ln 0 = 45
  · rw [if_pos h1] at hp0
    have hin : 0 < ln := Nat.pos_of_ne_zero (fun q => by rw [atc_out (by omega)] at h1; omega)
    rw [hp0] at main ⊢
    rw [atc_in hin] at main
    refine ⟨fun z => absurd z (by decide), fun _ => ?_⟩
    conv => whnf
    refine ⟨0, rfl, by omega, ?_⟩
    conv => whnf
    by_cases h2 : D 0 = 45
    · rw [decide_eq_true h2] at main
      refine ⟨fun z => absurd ((nI_eq (b := 45) (by omega) (by decide)).mpr h2) z, fun _ => ?_⟩
      conv => whnf
      refine ⟨?_, trivial⟩
      try dsimp only
      exact main
    · rw [decide_eq_false h2] at main
      refine ⟨fun _ => ?_, fun z => absurd ((nI_eq (b := 45) (by omega) (by decide)).mp z) h2⟩
      conv => whnf
      refine ⟨?_, trivial⟩
      try dsimp only
      exact main
  · rw [if_neg h1] at hp0
    rw [hp0, decide_eq_false (fun q => h1 (Or.inr q))] at main
    rw [hp0]
    refine ⟨fun _ => ?_, fun z => absurd (by decide) z⟩
    conv => whnf
    refine ⟨?_, trivial⟩
    try dsimp only
    exact main
end LG

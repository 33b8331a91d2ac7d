/-! the model: the draft -/
def byt (x : Int64) (k : Nat) : Nat := x.toBitVec.toNat / 2 ^ (8 * k) % 256
theorem and255 (y : Int64) : (y &&& 255).toBitVec.toNat = y.toBitVec.toNat % 256 := by
  show (y.toBitVec &&& 255#64).toNat = _
  rw [BitVec.toNat_and]
  exact Nat.and_two_pow_sub_one_eq_mod _ 8
theorem shr_nat (x : BitVec 64) (n : Nat) (hn : n = 0 ∨ n = 8 ∨ n = 16 ∨ n = 24 ∨ n = 32 ∨ n = 40 ∨ n = 48 ∨ n = 56) : (x.sshiftRight n).toNat % 256 = x.toNat / 2 ^ n % 256 := by
  have h := BitVec.toInt_sshiftRight (x := x) (n := n)
  rw [Int.shiftRight_eq_div_pow] at h
  have a := BitVec.toInt_eq_toNat_cond (x.sshiftRight n)
  have b := BitVec.toInt_eq_toNat_cond x
  have c := x.isLt
  have d := (x.sshiftRight n).isLt
  rcases hn with e | e | e | e | e | e | e | e <;> subst e <;> simp only [Nat.pow_zero, Nat.reducePow, Int.natCast_one] at * <;> omega
theorem sh_m (x : Int64) {i : Nat} (hi : i < 8) : x >>> ((nI (8 * i)).toInt64 &&& 63) = ⟨⟨x.toBitVec.sshiftRight (8 * i)⟩⟩ := by
  have h : i = 0 ∨ i = 1 ∨ i = 2 ∨ i = 3 ∨ i = 4 ∨ i = 5 ∨ i = 6 ∨ i = 7 := by omega
  rcases h with e | e | e | e | e | e | e | e <;> subst e <;> rfl
theorem lN_of_nat {y : Int64} {n : Nat} (h : y.toBitVec.toNat = n) : y = lN n := by
  apply Int64.toBitVec.inj
  apply BitVec.eq_of_toNat_eq
  rw [h]
  show n = (BitVec.ofNat 64 n).toNat
  rw [BitVec.toNat_ofNat, Nat.mod_eq_of_lt (by rw [← h]; exact y.toBitVec.isLt)]
theorem byt_m (x : Int64) {i : Nat} (hi : i < 8) : x >>> ((nI (8 * i)).toInt64 &&& 63) &&& 255 = lN (byt x i) := by
  apply lN_of_nat
  rw [and255, sh_m x hi]
  exact shr_nat x.toBitVec (8 * i) (by omega)
theorem sh_c (x : Int64) {i : Nat} (hi : i < 8) : (x.toUInt64 >>> ((nI (8 * i)).toInt64.toUInt64 &&& Int64.toUInt64 63)).toInt64 = ⟨⟨x.toBitVec >>> (8 * i)⟩⟩ := by
  have h : i = 0 ∨ i = 1 ∨ i = 2 ∨ i = 3 ∨ i = 4 ∨ i = 5 ∨ i = 6 ∨ i = 7 := by omega
  rcases h with e | e | e | e | e | e | e | e <;> subst e <;> rfl
theorem byt_c (x : Int64) {i : Nat} (hi : i < 8) : (x.toUInt64 >>> ((nI (8 * i)).toInt64.toUInt64 &&& Int64.toUInt64 63)).toInt64 &&& 255 = lN (byt x i) := by
  apply lN_of_nat
  rw [and255, sh_c x hi]
  show (x.toBitVec >>> (8 * i)).toNat % 256 = _
  rw [BitVec.toNat_ushiftRight, Nat.shiftRight_eq_div_pow]
  rfl
theorem i2c_m {c : Nat} (h : c < 65536) : ((nI c).toUInt32 % 65536).toInt32 = nI c := by
  unfold nI
  apply Int32.toBitVec.inj
  apply BitVec.eq_of_toNat_eq
  simp
  omega
/-- the bytes that are written, up to the k-th -/
def wr (x : Int64) (D : Nat → Nat) (ln : Nat) : Nat → (Nat → Nat) × Nat
  | 0 => (D, ln)
  | k + 1 => if byt x k = 0 then wr x D ln k else (zu (wr x D ln k).1 (wr x D ln k).2 (byt x k), (wr x D ln k).2 + 1)
def nzb (x : Int64) : Nat → Nat
  | 0 => 0
  | k + 1 => nzb x k + (if byt x k = 0 then 0 else 1)
theorem byt_lt (x : Int64) (k : Nat) : byt x k < 256 := Nat.mod_lt _ (by decide)
theorem wr_ln (x : Int64) (D : Nat → Nat) (ln k : Nat) : (wr x D ln k).2 = ln + nzb x k := by
  induction k with
  | zero => rfl
  | succ k ih =>
    show (if byt x k = 0 then wr x D ln k else (zu (wr x D ln k).1 (wr x D ln k).2 (byt x k), (wr x D ln k).2 + 1)).2 = ln + (nzb x k + (if byt x k = 0 then 0 else 1))
    split
    · rw [ih]; rfl
    · show (wr x D ln k).2 + 1 = _
      rw [ih]; omega
theorem nzb_le (x : Int64) (k : Nat) : nzb x k ≤ k := by
  induction k with
  | zero => exact Nat.le_refl _
  | succ k ih =>
    show nzb x k + (if byt x k = 0 then 0 else 1) ≤ k + 1
    split <;> omega
theorem nzb_mono (x : Int64) {j k : Nat} (h : j ≤ k) : nzb x j ≤ nzb x k := by
  induction k with
  | zero => rw [show j = 0 by omega]; exact Nat.le_refl _
  | succ k ih =>
    by_cases e : j = k + 1
    · rw [e]; exact Nat.le_refl _
    · exact Nat.le_trans (ih (by omega)) (Nat.le_add_right _ _)
theorem lN_z {n : Nat} (h : n < 2 ^ 31) : lg_cmp (lN n) 0 = 0 ↔ n = 0 := by
  rw [cmp_eq, show (0 : Int64) = lN 0 from rfl]
  exact lN_eq h (by decide)
section KX
variable {l : Launch} {B : zd_B} {Q : Option Value → zst → Prop} {t ln sz : Nat} {sc : Int} {mo be : Bool} {ts us lz pr fa : Nat} {D K Mn : Nat → Nat} {Mi : Nat → Bool} {Sc : Nat → Int} {rw tp un lf pa : Nat → Nat}
theorem w_wr10 (hG : zd_G B) (hl : l.stackTraces = false) {x : Int64}
    (hq : zm_W l B gM m_Mo_write 44 [some (.ref 53), some (.long x), none, some (.int (nI (nzb x 8))), some (.int (nI 64)), none] [] (mS t ln sz sc mo be ts us lz pr fa D K Mn Mi Sc rw tp un lf pa) Q) :
    ∀ (d i : Nat), i + d = 8 → zm_W l B gM m_Mo_write 10 [some (.ref 53), some (.long x), none, some (.int (nI (nzb x i))), some (.int (nI (8 * i))), none] [] (mS t ln sz sc mo be ts us lz pr fa D K Mn Mi Sc rw tp un lf pa) Q := by
  intro d
  induction d with
  | zero =>
    intro i hi
    have e : i = 8 := by omega
    subst e
    refine zm_go (okm_Mo_write hG hl) [44] 200 ?_
    conv => whnf
    refine ⟨fun _ => ?_, fun z => absurd (by decide) z⟩
    refine ⟨?_, trivial⟩
    try dsimp only
    exact hq
  | succ d ih =>
    intro i hi
    have nx := ih (i + 1) (by omega)
    have nl := nzb_le x i
    have bl := byt_lt x i
    rw [show nzb x (i + 1) = nzb x i + (if byt x i = 0 then 0 else 1) from rfl] at nx
    refine zm_go (okm_Mo_write hG hl) [10] 200 ?_
    conv => whnf
    refine ⟨fun z => absurd ((nI_ge0 (b := 64) (by omega) (by decide)).mp z) (by omega), fun _ => ?_⟩
    conv => whnf
    rw [byt_m x (by omega)]
    by_cases hz : byt x i = 0
    · rw [if_pos hz, Nat.add_zero] at nx
      refine ⟨fun _ => ?_, fun z => absurd ((lN_z (by omega)).mpr hz) z⟩
      conv => whnf
      refine ⟨?_, trivial⟩
      try dsimp only
      rw [show nI (8 * i) + 8 = nI (8 * (i + 1)) from nI_add _ 8]
      exact nx
    · rw [if_neg hz] at nx
      refine ⟨fun z => absurd ((lN_z (by omega)).mp z) hz, fun _ => ?_⟩
      conv => whnf
      refine ⟨?_, trivial⟩
      try dsimp only
      rw [show nI (8 * i) + 8 = nI (8 * (i + 1)) from nI_add _ 8, nI_1]
      exact nx
theorem w_wr61 (hG : zd_G B) (hl : l.stackTraces = false) {x : Int64} {a3 : Int32} {D0 : Nat → Nat} {n0 : Nat} (hn : n0 + nzb x 8 ≤ 1100)
    (hq : Q (some (.int (nI (n0 + nzb x 8)))) (mS t (n0 + nzb x 8) sz sc mo be ts us lz pr fa ((wr x D0 n0 8).1) K Mn Mi Sc rw tp un lf pa)) :
    ∀ (d i : Nat) (a5 : Option Value), i + d = 8 → zm_W l B gM m_Mo_write 61 [some (.ref 53), some (.long x), none, some (.int a3), some (.int (nI (8 * i))), a5] [] (mS t ((wr x D0 n0 i).2) sz sc mo be ts us lz pr fa ((wr x D0 n0 i).1) K Mn Mi Sc rw tp un lf pa) Q := by
  intro d
  induction d with
  | zero =>
    intro i a5 hi
    have e : i = 8 := by omega
    subst e
    rw [← wr_ln x D0] at hq
    refine zm_go (okm_Mo_write hG hl) [] 200 ?_
    conv => whnf
    refine ⟨fun _ => ?_, fun z => absurd (by decide) z⟩
    conv => whnf
    exact ⟨hq, trivial⟩
  | succ d ih =>
    intro i a5 hi
    have nx := fun a => ih (i + 1) a (by omega)
    have wl := wr_ln x D0 n0 i
    have nm := nzb_mono x (j := i + 1) (k := 8) (by omega)
    have ns : nzb x (i + 1) = nzb x i + (if byt x i = 0 then 0 else 1) := rfl
    have bl := byt_lt x i
    have ws : wr x D0 n0 (i + 1) = if byt x i = 0 then wr x D0 n0 i else (zu (wr x D0 n0 i).1 (wr x D0 n0 i).2 (byt x i), (wr x D0 n0 i).2 + 1) := rfl
    rw [ws] at nx
    refine zm_go (okm_Mo_write hG hl) [61] 200 ?_
    conv => whnf
    refine ⟨fun z => absurd ((nI_ge0 (b := 64) (by omega) (by decide)).mp z) (by omega), fun _ => ?_⟩
    conv => whnf
    rw [byt_m x (by omega), lN_i]
    by_cases hz : byt x i = 0
    · rw [if_pos hz] at nx
      refine ⟨fun _ => ?_, fun z => absurd ((nI_z (by omega)).mpr hz) z⟩
      conv => whnf
      refine ⟨?_, trivial⟩
      try dsimp only
      rw [show nI (8 * i) + 8 = nI (8 * (i + 1)) from nI_add _ 8]
      exact nx _
    · rw [if_neg hz] at nx ns
      refine ⟨fun z => absurd ((nI_z (by omega)).mp z) hz, fun _ => ?_⟩
      conv => whnf
      refine ⟨((wr x D0 n0 i).2), rfl, by omega, ?_⟩
      conv => whnf
      refine ⟨?_, trivial⟩
      try dsimp only
      rw [show nI (8 * i) + 8 = nI (8 * (i + 1)) from nI_add _ 8, nI_1]
      rw [upd_nI]
      exact nx _
theorem k_write (hG : zd_G B) (hl : l.stackTraces = false) {x : Int64} (hn : ln ≤ 1100)
    (hf : 1100 < ln + nzb x 8 → Q (some (.int (-1))) (mS (0) ln sz sc mo be ts us lz pr fa D K Mn Mi Sc rw tp un lf pa))
    (hq : ln + nzb x 8 ≤ 1100 → Q (some (.int (nI (ln + nzb x 8)))) (mS (0) (ln + nzb x 8) sz sc mo be ts us lz pr fa ((wr x D ln 8).1) K Mn Mi Sc rw tp un lf pa)) : zm_M l B gM m_Mo_write [.ref 53, .long x] (mS t ln sz sc mo be ts us lz pr fa D K Mn Mi Sc rw tp un lf pa) Q := by
  have nl := nzb_le x 8
  refine zm_go (okm_Mo_write hG hl) [10] 200 ?_
  conv => whnf
  refine ⟨?_, trivial⟩
  try dsimp only
  refine w_wr10 hG hl ?_ 8 0 (by omega)
  refine zm_go (okm_Mo_write hG hl) [61] 200 ?_
  conv => whnf
  rw [nI_add]
  by_cases h : ln + nzb x 8 ≤ 1100
  · refine ⟨fun _ => ?_, fun z => absurd ((nI_leI (b := 1100) (by omega) (by decide)).mpr h) z⟩
    conv => whnf
    refine ⟨?_, trivial⟩
    try dsimp only
    exact w_wr61 (D0 := D) (n0 := ln) hG hl h (hq h) 8 0 none (by omega)
  · refine ⟨fun z => absurd ((nI_leI (b := 1100) (by omega) (by decide)).mp z) h, fun _ => ?_⟩
    conv => whnf
    exact ⟨hf (by omega), trivial⟩
/-- a character, or 0 behind the last -/
def atc (D : Nat → Nat) (ln p : Nat) : Nat := if p < ln then D p else 0
theorem k_at (hG : zd_G B) (hl : l.stackTraces = false) {p : Nat} (hn : ln ≤ 1100) (hp : p < 100000) (hq : Q (some (.int (nI (atc D ln p)))) (mS t ln sz sc mo be ts us lz pr fa D K Mn Mi Sc rw tp un lf pa)) : zm_M l B gM m_Mo_at [.ref 53, .int (nI p)] (mS t ln sz sc mo be ts us lz pr fa D K Mn Mi Sc rw tp un lf pa) Q := by
  unfold atc at hq
  refine zm_go (okm_Mo_at hG hl) [] 200 ?_
  conv => whnf
  by_cases h : p < ln
  · rw [if_pos h] at hq
    refine ⟨fun z => absurd ((nI_ge0 (by omega) (by omega)).mp z) (by omega), fun _ => ?_⟩
    conv => whnf
    refine ⟨p, rfl, by omega, ?_⟩
    conv => whnf
    exact ⟨hq, trivial⟩
  · rw [if_neg h] at hq
    refine ⟨fun _ => ?_, fun z => absurd ((nI_ge0 (by omega) (by omega)).mpr (by omega)) z⟩
    conv => whnf
    exact ⟨hq, trivial⟩
def dgt (c : Nat) : Bool := decide (48 ≤ c ∧ c ≤ 57)
theorem k_isDigit (hG : zd_G B) (hl : l.stackTraces = false) {c : Nat} (hc : c < 100000) (hq : Q (some (.int (bI (dgt c)))) (mS t ln sz sc mo be ts us lz pr fa D K Mn Mi Sc rw tp un lf pa)) : zm_M l B gM m_Mo_isDigit [.int (nI c)] (mS t ln sz sc mo be ts us lz pr fa D K Mn Mi Sc rw tp un lf pa) Q := by
  unfold dgt at hq
  refine zm_go (okm_Mo_isDigit hG hl) [] 200 ?_
  conv => whnf
  by_cases h1 : c < 48
  · rw [decide_eq_false (by omega)] at hq
    refine ⟨fun _ => ?_, fun z => absurd ((nI_ltI (b := 48) (by omega) (by decide)).mpr h1) z⟩
    conv => whnf
    exact ⟨⟨false, rfl, hq⟩, trivial⟩
  · refine ⟨fun z => absurd ((nI_ltI (b := 48) (by omega) (by decide)).mp z) h1, fun _ => ?_⟩
    conv => whnf
    by_cases h2 : 57 < c
    · rw [decide_eq_false (by omega)] at hq
      refine ⟨fun _ => ?_, fun z => absurd ((nI_ltI (a := 57) (by decide) (by omega)).mpr h2) z⟩
      conv => whnf
      exact ⟨⟨false, rfl, hq⟩, trivial⟩
    · rw [decide_eq_true (by omega)] at hq
      refine ⟨fun z => absurd ((nI_ltI (a := 57) (by decide) (by omega)).mp z) h2, fun _ => ?_⟩
      conv => whnf
      exact ⟨⟨true, rfl, hq⟩, trivial⟩
end KX

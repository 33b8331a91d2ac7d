/-! the text: figures, zeros, a point -/
def pl (V : Nat) : Nat → Int → List Nat
  | 0, _ => []
  | n + 1, k => (48 + fd V k) :: pl V n (k + 1)
theorem pl_len (V n : Nat) : ∀ k, (pl V n k).length = n := by
  induction n with
  | zero => intro k; rfl
  | succ n ih => intro k; show (pl V n (k + 1)).length + 1 = n + 1; rw [ih]
theorem pl_snoc (V n : Nat) : ∀ k, pl V (n + 1) k = pl V n k ++ [48 + fd V (k + n)] := by
  induction n with
  | zero => intro k; show [48 + fd V k] = [48 + fd V (k + 0)]; rw [Int.add_zero]
  | succ n ih =>
    intro k
    show (48 + fd V k) :: pl V (n + 1) (k + 1) = (48 + fd V k) :: (pl V n (k + 1) ++ [48 + fd V (k + ((n + 1 : Nat) : Int))])
    rw [ih, show k + 1 + (n : Int) = k + ((n + 1 : Nat) : Int) by omega]
theorem pl_zero {V n : Nat} : ∀ {k : Int}, ((dg V : Int) ≤ k ∨ k + n ≤ 0 ∨ V = 0) → pl V n k = List.replicate n 48 := by
  induction n with
  | zero => intro k h; rfl
  | succ n ih =>
    intro k h
    show (48 + fd V k) :: pl V n (k + 1) = 48 :: List.replicate n 48
    rw [ih (by omega)]
    congr 1
    have : fd V k = 0 := by
      unfold fd
      split
      · rcases h with h | h | h
        · omega
        · omega
        · subst h
          unfold td
          rw [Nat.zero_div]
      · rfl
    omega
theorem figs_pl {V n : Nat} {pt : Int} : ∀ {k : Int}, (pt < k ∨ k + n ≤ pt) → figs V pt n k = pl V n k := by
  induction n with
  | zero => intro k h; rfl
  | succ n ih =>
    intro k h
    show (if k = pt then [46, 48 + fd V k] else [48 + fd V k]) ++ figs V pt n (k + 1) = (48 + fd V k) :: pl V n (k + 1)
    rw [if_neg (by omega), ih (by omega)]
    rfl
theorem figs_add {V m n : Nat} {pt : Int} : ∀ {k : Int}, figs V pt (m + n) k = figs V pt m k ++ figs V pt n (k + m) := by
  induction m with
  | zero => intro k; rw [Nat.zero_add]; show _ = [] ++ figs V pt n (k + 0); rw [Int.add_zero]; rfl
  | succ m ih =>
    intro k
    rw [show m + 1 + n = (m + n) + 1 by omega]
    show (if k = pt then [46, 48 + fd V k] else [48 + fd V k]) ++ figs V pt (m + n) (k + 1) = ((if k = pt then [46, 48 + fd V k] else [48 + fd V k]) ++ figs V pt m (k + 1)) ++ figs V pt n (k + ((m + 1 : Nat) : Int))
    rw [ih, List.append_assoc, show k + 1 + (m : Int) = k + ((m + 1 : Nat) : Int) by omega]
theorem figs_pt {V n : Nat} {k : Int} (hn : 1 ≤ n) : figs V k n k = 46 :: pl V n k := by
  obtain ⟨m, rfl⟩ : ∃ m, n = m + 1 := ⟨n - 1, by omega⟩
  show (if k = k then [46, 48 + fd V k] else [48 + fd V k]) ++ figs V k m (k + 1) = 46 :: (48 + fd V k) :: pl V m (k + 1)
  rw [if_pos rfl, figs_pl (by omega)]
  rfl
theorem pl_add {V m n : Nat} : ∀ {k : Int}, pl V (m + n) k = pl V m k ++ pl V n (k + m) := by
  intro k
  have := figs_add (V := V) (m := m) (n := n) (pt := k - 1) (k := k)
  rwa [figs_pl (by omega), figs_pl (by omega), figs_pl (by omega)] at this
/-- with so many figures before the point -/
def ptd (V : Nat) (b : Int) : List Nat := if b ≤ 0 then [48, 46] ++ List.replicate (-b).toNat 48 ++ pl V (dg V) 0 else pl V (min b (dg V)).toNat 0 ++ List.replicate (b - dg V).toNat 48 ++ (if b < dg V then [46] ++ pl V (dg V - b.toNat) b else [])
theorem ptd_len (V : Nat) (b : Int) : (ptd V b).length ≤ dg V + b.natAbs + 2 := by
  have := dg_pos V
  unfold ptd
  split
  · rw [List.length_append, List.length_append, List.length_replicate, pl_len]
    show 2 + _ + _ ≤ _
    omega
  · rw [List.length_append, List.length_append, List.length_replicate, pl_len]
    split
    · rw [List.length_append, pl_len]
      show _ + (1 + _) ≤ _
      omega
    · show _ + 0 ≤ _
      omega
theorem ptd_figs {V : Nat} {b : Int} (hb : 1 ≤ b) : ptd V b = figs V b (max (dg V : Int) b).toNat 0 := by
  unfold ptd
  rw [if_neg (by omega)]
  by_cases h : b < dg V
  · rw [if_pos h, show (b - dg V).toNat = 0 by omega, show (min b (dg V)).toNat = b.toNat by omega, show (max (dg V : Int) b).toNat = b.toNat + (dg V - b.toNat) by omega, figs_add, figs_pl (by omega), show (0 : Int) + (b.toNat : Int) = b by omega, figs_pt (by omega)]
    simp
  · rw [if_neg h, show (min b (dg V)).toNat = dg V by omega, show (max (dg V : Int) b).toNat = dg V + (b - dg V).toNat by omega, figs_pl (by omega), pl_add, pl_zero (n := (b - dg V).toNat) (Or.inl (by omega)), List.append_nil]
theorem ptd_neg {V : Nat} {b : Int} (hb : b < 1) : ptd V b = figs V b (dg V - b + 1).toNat (b - 1) := by
  unfold ptd
  rw [if_pos (by omega)]
  have hd := dg_pos V
  rw [show ((dg V : Int) - b + 1).toNat = 1 + (dg V - b).toNat by omega, figs_add, figs_pl (by omega), show b - 1 + ((1 : Nat) : Int) = b by omega, figs_pt (by omega), pl_zero (n := 1) (Or.inr (Or.inl (by omega))), show ((dg V : Int) - b).toNat = (-b).toNat + dg V by omega, pl_add, pl_zero (n := (-b).toNat) (Or.inr (Or.inl (by omega))), show b + ((-b).toNat : Int) = 0 by omega]
  rfl
section LH
variable {l : Launch} {B : zd_B} {Q : Option Value → List Nat → Prop} {k cap A V : Nat} {ng : Bool} {s : Int} {L : List Nat}
theorem u_digits (hG : zd_G B) (hl : l.stackTraces = false) (hq : Q (some (.int (nI (dg V)))) L) : zt_M l B (k, cap, A, ng, V, s) m_Na_digits [.ref (3 + 3 * A : Nat)] L Q := t_digits (E := (k, cap, A, ng, V, s)) hG hl hq
theorem u_digitAt (hG : zd_G B) (hl : l.stackTraces = false) {p : Nat} (hp : p < 2 ^ 31) (hq : Q (some (.int (nI (V / 10 ^ p % 10)))) L) : zt_M l B (k, cap, A, ng, V, s) m_Na_digitAt [.ref (3 + 3 * A : Nat), .int (nI p)] L Q := t_digitAt (E := (k, cap, A, ng, V, s)) hG hl hp hq
theorem u_isZero (hG : zd_G B) (hl : l.stackTraces = false) (hq : Q (some (.int (bI (decide (V = 0))))) L) : zt_M l B (k, cap, A, ng, V, s) m_Na_isZero [.ref (3 + 3 * A : Nat)] L Q := t_isZero (E := (k, cap, A, ng, V, s)) hG hl hq
theorem u_n : trc (k, cap, A, ng, V, s) (3 + 3 * A) 4 := tc_n (E := (k, cap, A, ng, V, s))
theorem u_append (hG : zd_G B) (hl : l.stackTraces = false) {c : Nat} (hc : c < 65536) (hL : L.length < cap) (hq : Q none (L ++ [c])) : zt_M l B (k, cap, A, ng, V, s) m_Te_append [.ref 34, .int (nI c)] L Q := t_append (E := (k, cap, A, ng, V, s)) hG hl hc hL hq
theorem u_power (hG : zd_G B) (hl : l.stackTraces = false) {e : Int} (he : -50000 < e ∧ e < 50000) (hL : L.length + 12 ≤ cap) (hq : Q none (L ++ (if e = 0 then [] else expo e))) : zt_M l B (k, cap, A, ng, V, s) m_Te_appendPower [.ref 34, .int (iI e)] L Q := t_power (E := (k, cap, A, ng, V, s)) hG hl he hL hq
theorem w_zeros (hG : zd_G B) (hl : l.stackTraces = false) {n : Int} (hn : iR n) (hL : L.length + n.toNat ≤ cap) (hq : Q none (L ++ List.replicate n.toNat 48)) :
    ∀ (d i : Nat), i + d = n.toNat → zt_W l B (k, cap, A, ng, V, s) m_Te_appendZeros 2 [some (.ref 34), some (.int (iI n)), some (.int (nI i))] [] (L ++ List.replicate i 48) Q := by
  have hn1 := hn.1
  have hn2 := hn.2
  intro d
  induction d with
  | zero =>
    intro i hi
    have e : i = n.toNat := by omega
    subst e
    refine zt_go (okt_Te_appendZeros hG hl) [] 200 ?_
    conv => whnf
    rw [iI_nI n.toNat]
    refine ⟨fun _ => ?_, fun z => absurd ((iI_le hn ⟨by omega, by omega⟩).mpr (by omega)) z⟩
    conv => whnf
    exact ⟨hq, trivial⟩
  | succ d ih =>
    intro i hi
    refine zt_go (okt_Te_appendZeros hG hl) [2] 200 ?_
    conv => whnf
    rw [iI_nI i]
    refine ⟨fun z => absurd ((iI_le hn ⟨by omega, by omega⟩).mp z) (by omega), fun _ => ?_⟩
    conv => whnf
    refine ⟨tc_34, ?_⟩
    refine u_append (c := 48) hG hl (by decide) (by rw [List.length_append, List.length_replicate]; omega) ?_
    conv => whnf
    refine ⟨?_, trivial⟩
    try dsimp only
    rw [← iI_nI i, nI_1, List.append_assoc, ← List.replicate_succ']
    exact ih (i + 1) (by omega)
theorem u_zeros (hG : zd_G B) (hl : l.stackTraces = false) {n : Int} (hn : iR n) (hL : L.length + n.toNat ≤ cap) (hq : Q none (L ++ List.replicate n.toNat 48)) : zt_M l B (k, cap, A, ng, V, s) m_Te_appendZeros [.ref 34, .int (iI n)] L Q := by
  refine zt_go (okt_Te_appendZeros hG hl) [2] 200 ?_
  conv => whnf
  refine ⟨?_, trivial⟩
  try dsimp only
  have := w_zeros (k := k) (A := A) (ng := ng) (V := V) (s := s) hG hl hn hL hq n.toNat 0 (by omega)
  rwa [show List.replicate 0 48 = ([] : List Nat) from rfl, List.append_nil] at this
theorem w_adig (hG : zd_G B) (hl : l.stackTraces = false) {fr n : Nat} (hd : dg V ≤ 1000) (hn : fr + n ≤ dg V) (hL : L.length + n ≤ cap) (hq : Q none (L ++ pl V n fr)) :
    ∀ (d i : Nat), i + d = n → zt_W l B (k, cap, A, ng, V, s) m_Te_appendDigits 11 [some (.ref 34), some (.ref (3 + 3 * A : Nat)), some (.int (nI fr)), some (.int (nI (fr + n))), some (.int (nI (dg V - 1))), some (.int (nI (fr + i)))] [] (L ++ pl V i fr) Q := by
  intro d
  induction d with
  | zero =>
    intro i hi
    have e : i = n := by omega
    subst e
    refine zt_go (okt_Te_appendDigits hG hl) [] 200 ?_
    conv => whnf
    refine ⟨fun _ => ?_, fun z => absurd (Int32.le_refl _) z⟩
    conv => whnf
    exact ⟨hq, trivial⟩
  | succ d ih =>
    intro i hi
    have hdl := td_lt V (dg V) (fr + i)
    refine zt_go (okt_Te_appendDigits hG hl) [11] 200 ?_
    conv => whnf
    refine ⟨fun z => absurd ((nI_leI (by omega) (by omega)).mp z) (by omega), fun _ => ?_⟩
    conv => whnf
    rw [nI_sub (by omega)]
    refine ⟨u_n, ?_⟩
    refine u_digitAt hG hl (by omega) ?_
    conv => whnf
    rw [show (48 : Int32) + nI (V / 10 ^ (dg V - 1 - (fr + i)) % 10) = nI (48 + td V (dg V) (fr + i)) from nI_add 48 _, i2c_m (by omega)]
    refine ⟨tc_34, ?_⟩
    refine u_append hG hl (by omega) (by rw [List.length_append, pl_len]; omega) ?_
    conv => whnf
    refine ⟨?_, trivial⟩
    try dsimp only
    rw [nI_1, List.append_assoc, show pl V i fr ++ [48 + td V (dg V) (fr + i)] = pl V (i + 1) fr by
      rw [pl_snoc]
      congr 3
      unfold fd
      rw [if_pos (by omega)]
      congr 1]
    exact ih (i + 1) (by omega)
theorem u_adig (hG : zd_G B) (hl : l.stackTraces = false) {fr n : Nat} (hd : dg V ≤ 1000) (hn : fr + n ≤ dg V) (hL : L.length + n ≤ cap) (hq : Q none (L ++ pl V n fr)) : zt_M l B (k, cap, A, ng, V, s) m_Te_appendDigits [.ref 34, .ref (3 + 3 * A : Nat), .int (nI fr), .int (nI (fr + n))] L Q := by
  have hp := dg_pos V
  refine zt_go (okt_Te_appendDigits hG hl) [11] 200 ?_
  conv => whnf
  refine ⟨u_n, ?_⟩
  refine u_digits hG hl ?_
  conv => whnf
  refine ⟨?_, trivial⟩
  try dsimp only
  rw [show nI (dg V) - 1 = nI (dg V - 1) from nI_sub (b := 1) hp]
  have := w_adig (k := k) (A := A) (ng := ng) (s := s) hG hl hd hn hL hq n 0 (by omega)
  rwa [show pl V 0 fr = ([] : List Nat) from rfl, List.append_nil] at this
theorem u_adigE (hG : zd_G B) (hl : l.stackTraces = false) {x2 x3 : Int32} (fr n : Nat) (e2 : x2 = nI fr) (e3 : x3 = nI (fr + n)) (hd : dg V ≤ 1000) (hn : fr + n ≤ dg V) (hL : L.length + n ≤ cap) (hq : Q none (L ++ pl V n fr)) : zt_M l B (k, cap, A, ng, V, s) m_Te_appendDigits [.ref 34, .ref (3 + 3 * A : Nat), .int x2, .int x3] L Q := by
  subst e2
  subst e3
  exact u_adig hG hl hd hn hL hq
theorem u_spellZero (hG : zd_G B) (hl : l.stackTraces = false) {z : Nat} (hz : z < 1000) (hL : L.length + z + 2 ≤ cap) (hq : Q none (L ++ ([48] ++ if z = 0 then [] else [46] ++ List.replicate z 48))) : zt_M l B (k, cap, A, ng, V, s) m_Te_spellZero [.ref 34, .int (nI z)] L Q := by
  refine zt_go (okt_Te_spellZero hG hl) [] 200 ?_
  conv => whnf
  refine ⟨tc_34, ?_⟩
  refine u_append (c := 48) hG hl (by decide) (by omega) ?_
  conv => whnf
  by_cases h : z = 0
  · rw [if_pos h] at hq
    refine ⟨fun _ => ?_, fun w => absurd ((nI_leI (b := 0) (by omega) (by decide)).mpr (by omega)) w⟩
    conv => whnf
    exact ⟨hq, trivial⟩
  · rw [if_neg h] at hq
    refine ⟨fun w => absurd ((nI_leI (b := 0) (by omega) (by decide)).mp w) (by omega), fun _ => ?_⟩
    conv => whnf
    refine ⟨tc_34, ?_⟩
    refine u_append (c := 46) hG hl (by decide) (by rw [List.length_append]; show _ + 1 < _; omega) ?_
    conv => whnf
    refine ⟨tc_34, ?_⟩
    rw [iI_nI z]
    refine u_zeros hG hl ⟨by omega, by omega⟩ (by rw [List.length_append, List.length_append]; show _ + 1 + 1 + _ ≤ _; omega) ?_
    conv => whnf
    rw [List.append_assoc, List.append_assoc]
    exact ⟨hq, trivial⟩
theorem u_spellInteger (hG : zd_G B) (hl : l.stackTraces = false) (hd : dg V ≤ 1000) (hs : -10000 ≤ s ∧ s ≤ 0) (hL : L.length + dg V + s.natAbs ≤ cap) (hq : Q none (L ++ pl V (if V = 0 then 1 else ((dg V : Int) - s).toNat) 0)) : zt_M l B (k, cap, A, ng, V, s) m_Te_spellInteger [.ref 34, .ref (2 + 3 * A : Nat)] L Q := by
  refine zt_go (okt_Te_spellInteger hG hl) [] 200 ?_
  conv => whnf
  refine ⟨rfl, ?_⟩
  conv => whnf
  refine ⟨rfl, ?_⟩
  conv => whnf
  refine ⟨u_n, ?_⟩
  refine u_digits hG hl ?_
  conv => whnf
  refine ⟨tc_34, ?_⟩
  refine u_adigE hG hl 0 (dg V) rfl (by rw [Nat.zero_add]) hd (by omega) (by omega) ?_
  conv => whnf
  refine ⟨rfl, ?_⟩
  conv => whnf
  refine ⟨u_n, ?_⟩
  refine u_isZero hG hl ?_
  conv => whnf
  by_cases h : V = 0
  · rw [if_pos h] at hq
    rw [decide_eq_true h]
    refine ⟨fun _ => ?_, fun z => absurd z (show ¬ bI true = 0 by decide)⟩
    conv => whnf
    subst h
    rw [dg_0]
    exact ⟨hq, trivial⟩
  · rw [if_neg h, show ((dg V : Int) - s).toNat = dg V + (-s).toNat by omega, pl_add, pl_zero (n := (-s).toNat) (Or.inl (by omega)), ← List.append_assoc] at hq
    rw [decide_eq_false h]
    refine ⟨fun z => absurd rfl z, fun _ => ?_⟩
    conv => whnf
    refine ⟨rfl, ?_⟩
    conv => whnf
    rw [show -iI (k, cap, A, ng, V, s).2.2.2.2.2 = iI (-s) from iI_neg s]
    refine ⟨tc_34, ?_⟩
    refine u_zeros hG hl ⟨by omega, by omega⟩ (by rw [List.length_append, pl_len]; omega) ?_
    conv => whnf
    exact ⟨hq, trivial⟩
theorem u_pointed (hG : zd_G B) (hl : l.stackTraces = false) {b : Int} (hd : dg V ≤ 1000) (hb : -20000 < b ∧ b < 20000) (hL : L.length + (ptd V b).length ≤ cap) (hq : Q none (L ++ ptd V b)) : zt_M l B (k, cap, A, ng, V, s) m_Te_spellPointed [.ref 34, .ref (3 + 3 * A : Nat), .int (iI b)] L Q := by
  have hp := dg_pos V
  have r0 : iR 0 := ⟨by decide, by decide⟩
  have rb : iR b := ⟨by omega, by omega⟩
  refine zt_go (okt_Te_spellPointed hG hl) [] 200 ?_
  conv => whnf
  refine ⟨u_n, ?_⟩
  refine u_digits hG hl ?_
  conv => whnf
  unfold ptd at hq hL
  by_cases h1 : b ≤ 0
  · rw [if_pos h1] at hq hL
    rw [List.length_append, List.length_append, List.length_replicate, pl_len] at hL
    have hL : L.length + (2 + (-b).toNat + dg V) ≤ cap := hL
    refine ⟨fun z => absurd ((iI_lt r0 rb).mp z) (by omega), fun _ => ?_⟩
    conv => whnf
    refine ⟨tc_34, ?_⟩
    refine u_append (c := 48) hG hl (by decide) (by omega) ?_
    conv => whnf
    refine ⟨tc_34, ?_⟩
    refine u_append (c := 46) hG hl (by decide) (by rw [List.length_append]; show _ + 1 < _; omega) ?_
    conv => whnf
    rw [iI_neg]
    refine ⟨tc_34, ?_⟩
    refine u_zeros hG hl ⟨by omega, by omega⟩ (by rw [List.length_append, List.length_append]; show _ + 1 + 1 + _ ≤ _; omega) ?_
    conv => whnf
    refine ⟨tc_34, ?_⟩
    refine u_adigE hG hl 0 (dg V) rfl (by rw [Nat.zero_add]) hd (by omega) (by rw [List.length_append, List.length_append, List.length_append, List.length_replicate]; show _ + 1 + 1 + _ + _ ≤ _; omega) ?_
    conv => whnf
    have e : L ++ [48] ++ [46] ++ List.replicate (-b).toNat 48 ++ pl V (dg V) ((0 : Nat) : Int) = L ++ ([48, 46] ++ List.replicate (-b).toNat 48 ++ pl V (dg V) 0) := by simp
    rw [e]
    exact ⟨hq, trivial⟩
  · rw [if_neg h1] at hq hL
    rw [List.length_append, List.length_append, List.length_replicate, pl_len] at hL
    refine ⟨fun _ => ?_, fun z => absurd ((iI_lt r0 rb).mpr (by omega)) z⟩
    conv => whnf
    rw [iI_nI (dg V)]
    refine t_min hG hl rb ⟨by omega, by omega⟩ ?_
    conv => whnf
    refine ⟨tc_34, ?_⟩
    refine u_adigE hG hl 0 (min b (dg V)).toNat rfl (by rw [Nat.zero_add, iI_nI (min b (dg V)).toNat, show ((min b (dg V)).toNat : Int) = min b (dg V) by omega]) hd (by omega) (by omega) ?_
    conv => whnf
    rw [iI_sub]
    refine ⟨tc_34, ?_⟩
    refine u_zeros hG hl ⟨by omega, by omega⟩ (by rw [List.length_append, pl_len]; omega) ?_
    conv => whnf
    by_cases h2 : b < dg V
    · rw [if_pos h2] at hq hL
      rw [List.length_append, pl_len] at hL
      have hL : L.length + ((min b (dg V)).toNat + (b - dg V).toNat + (1 + (dg V - b.toNat))) ≤ cap := hL
      refine ⟨fun z => absurd ((iI_le ⟨by omega, by omega⟩ rb).mp z) (by omega), fun _ => ?_⟩
      conv => whnf
      refine ⟨tc_34, ?_⟩
      refine u_append (c := 46) hG hl (by decide) (by rw [List.length_append, List.length_append, pl_len, List.length_replicate]; omega) ?_
      conv => whnf
      refine ⟨tc_34, ?_⟩
      refine u_adigE hG hl b.toNat (dg V - b.toNat) (by rw [iI_nI b.toNat, show (b.toNat : Int) = b by omega]) (by rw [show b.toNat + (dg V - b.toNat) = dg V by omega, iI_nI (dg V)]) hd (by omega) (by rw [List.length_append, List.length_append, List.length_append, List.length_replicate, pl_len]; show _ + 1 + _ ≤ _; omega) ?_
      conv => whnf
      rw [show ((b.toNat : Nat) : Int) = b by omega]
      rw [List.append_assoc, List.append_assoc, List.append_assoc]
      rw [List.append_assoc] at hq
      exact ⟨hq, trivial⟩
    · rw [if_neg h2, List.append_nil] at hq
      refine ⟨fun _ => ?_, fun z => absurd ((iI_le ⟨by omega, by omega⟩ rb).mpr (by omega)) z⟩
      conv => whnf
      rw [List.append_assoc]
      exact ⟨hq, trivial⟩
theorem figs_le (V : Nat) (pt : Int) (n : Nat) (k : Int) : (figs V pt n k).length ≤ n + 1 := by
  rw [figs_len]
  split <;> omega
theorem expo_len {e : Int} (he : -50000 < e ∧ e < 50000) : (expo e).length ≤ 7 := by
  have h5 : dg e.natAbs ≤ 5 := dgle (by decide) (by omega)
  unfold expo
  rw [List.length_append, decs_len]
  show 2 + _ ≤ 7
  omega
/-- what is written, by the kind, behind the sign -/
theorem tx_plain {V : Nat} {s : Int} (h : s ≤ 0) : tx_body V s 1 = pl V (if V = 0 then 1 else ((dg V : Int) - s).toNat) 0 := by
  unfold tx_body
  rw [if_pos ⟨rfl, h⟩, figs_pl (by omega)]
theorem tx_ptd {V : Nat} {s : Int} {kd : Nat} (h0 : ¬ (kd = 1 ∧ s ≤ 0)) (h : 0 ≤ s ∧ (kd = 1 ∨ -6 ≤ (dg V : Int) - 1 - s)) : tx_body V s kd = ptd V ((dg V : Int) - s) := by
  have hp := dg_pos V
  unfold tx_body
  rw [if_neg h0, if_pos h]
  by_cases hs : s = 0
  · subst hs
    rw [if_neg (by omega), if_pos rfl, ptd_figs (by omega), figs_pl (by omega), show (max (dg V : Int) ((dg V : Int) - 0)).toNat = dg V by omega, figs_pl (by omega)]
  · rw [if_neg hs]
    by_cases hb : (dg V : Int) - s < 1
    · rw [if_pos hb, ptd_neg hb]
      congr 1
      omega
    · rw [if_neg hb, ptd_figs (by omega)]
      congr 1
      omega
theorem tx_ten {V : Nat} {s : Int} (h : ¬ (0 ≤ s ∧ -6 ≤ (dg V : Int) - 1 - s)) : tx_body V s 0 = ptd V 1 ++ (if (dg V : Int) - 1 - s = 0 then [] else expo ((dg V : Int) - 1 - s)) := by
  have hp := dg_pos V
  unfold tx_body
  rw [if_neg (by omega), if_neg (by omega), if_pos rfl, if_neg (by omega), ptd_figs (by omega)]
  congr 2
  omega
theorem tx_zero {s : Int} (h : ¬ (0 ≤ s ∧ -6 ≤ (dg 0 : Int) - 1 - s)) : tx_body 0 s 2 = ([48] ++ if ((-(0 - s)) % 3).toNat = 0 then [] else [46] ++ List.replicate ((-(0 - s)) % 3).toNat 48) ++ (if (0 - s) + (-(0 - s)) % 3 = 0 then [] else expo ((0 - s) + (-(0 - s)) % 3)) := by
  unfold tx_body
  rw [if_neg (by omega), if_neg (by omega), if_neg (by omega), if_pos rfl, dg_0]
  rw [show ((1 : Nat) : Int) - 1 - s = 0 - s by omega, show -(3 * (-(0 - s) / 3)) = (0 - s) + (-(0 - s)) % 3 by omega, show (1 + ((0 - s) + (-(0 - s)) % 3) - (0 - s)).toNat = 1 + ((-(0 - s)) % 3).toNat by omega]
  congr 1
  generalize ((-(0 - s)) % 3).toNat = z
  rw [figs_add, figs_pl (by omega), pl_zero (n := 1) (Or.inr (Or.inr rfl))]
  rcases Nat.eq_zero_or_pos z with q | q
  · subst q
    rfl
  · rw [show (0 : Int) + ((1 : Nat) : Int) = 1 by omega, figs_pt q, pl_zero (Or.inr (Or.inr rfl)), if_neg (by omega)]
    rfl
theorem tx_eng {V : Nat} {s : Int} (h : ¬ (0 ≤ s ∧ -6 ≤ (dg V : Int) - 1 - s)) (hV : V ≠ 0) : tx_body V s 2 = ptd V (((dg V : Int) - 1 - s) % 3 + 1) ++ (if ((dg V : Int) - 1 - s) - ((dg V : Int) - 1 - s) % 3 = 0 then [] else expo (((dg V : Int) - 1 - s) - ((dg V : Int) - 1 - s) % 3)) := by
  unfold tx_body
  rw [if_neg (by omega), if_neg (by omega), if_neg (by omega), if_neg hV, ptd_figs (by omega), show ((dg V : Int) - 1 - s) - ((dg V : Int) - 1 - s) % 3 = 3 * (((dg V : Int) - 1 - s) / 3) by omega, show (dg V : Int) - 1 - s - 3 * (((dg V : Int) - 1 - s) / 3) + 1 = ((dg V : Int) - 1 - s) % 3 + 1 by omega]
set_option maxRecDepth 4000 in
theorem u_spell (hG : zd_G B) (hl : l.stackTraces = false) {kd : Nat} (hk : kd < 3) (hd : dg V ≤ 1000) (hs : -10000 ≤ s ∧ s ≤ 10000) (hc : dg V + s.natAbs + 20 ≤ cap)
    (hq : Q (some (.int (nI (sp_txt (ng, V, s) kd).length))) (sp_txt (ng, V, s) kd)) : zt_W l B (k, cap, A, ng, V, s) m_Te_spell 31 [some (.ref 34), some (.ref (2 + 3 * A : Nat)), some (.int (nI kd)), some (.int (nI (dg V))), some (.int (iI ((dg V : Int) - 1 - s))), none] [] [] Q := by
  have hp := dg_pos V
  have r0 : iR 0 := ⟨by decide, by decide⟩
  have rs : iR s := ⟨by omega, by omega⟩
  have rl : iR ((dg V : Int) - 1 - s) := ⟨by omega, by omega⟩
  have r6 : iR (-6) := ⟨by decide, by decide⟩
  have fin : ∀ (L : List Nat) (x5 : Option Value), L = sp_txt (ng, V, s) kd → zt_W l B (k, cap, A, ng, V, s) m_Te_spell 195 [some (.ref 34), some (.ref (2 + 3 * A : Nat)), some (.int (nI kd)), some (.int (nI (dg V))), some (.int (iI ((dg V : Int) - 1 - s))), x5] [] L Q := by
    intro L x5 e
    subst e
    refine zt_go (okt_Te_spell hG hl) [] 200 ?_
    conv => whnf
    exact ⟨hq, trivial⟩
  have body : ∀ S : List Nat, S = (if ng then [45] else []) → S.length ≤ 1 → zt_W l B (k, cap, A, ng, V, s) m_Te_spell 44 [some (.ref 34), some (.ref (2 + 3 * A : Nat)), some (.int (nI kd)), some (.int (nI (dg V))), some (.int (iI ((dg V : Int) - 1 - s))), none] [] S Q := by
    intro S eS hS
    have fin : ∀ (T : List Nat) (x5 : Option Value), T = tx_body V s kd → zt_W l B (k, cap, A, ng, V, s) m_Te_spell 195 [some (.ref 34), some (.ref (2 + 3 * A : Nat)), some (.int (nI kd)), some (.int (nI (dg V))), some (.int (iI ((dg V : Int) - 1 - s))), x5] [] (S ++ T) Q := fun T x5 e => fin _ x5 (by unfold sp_txt; rw [e, eS])
    have pointed : 0 ≤ s ∧ (kd = 1 ∨ -6 ≤ (dg V : Int) - 1 - s) → ¬ (kd = 1 ∧ s ≤ 0) → zt_W l B (k, cap, A, ng, V, s) m_Te_spell 90 [some (.ref 34), some (.ref (2 + 3 * A : Nat)), some (.int (nI kd)), some (.int (nI (dg V))), some (.int (iI ((dg V : Int) - 1 - s))), none] [] S Q := by
      intro h1 h2
      have hl1 := ptd_len V ((dg V : Int) - s)
      have hl2 : (ptd V ((dg V : Int) - s)).length ≤ dg V + s.natAbs + 2 := by
        rw [← tx_ptd h2 h1]
        unfold tx_body
        rw [if_neg h2, if_pos h1]
        split
        · exact Nat.le_trans (figs_le _ _ _ _) (by omega)
        · exact Nat.le_trans (figs_le _ _ _ _) (by omega)
      refine zt_go (okt_Te_spell hG hl) [195] 200 ?_
      conv => whnf
      refine ⟨rfl, ?_⟩
      conv => whnf
      refine ⟨rfl, ?_⟩
      conv => whnf
      rw [show nI (dg V) - iI (k, cap, A, ng, V, s).2.2.2.2.2 = iI ((dg V : Int) - s) by rw [iI_nI]; exact iI_sub _ _]
      refine ⟨tc_34, ?_⟩
      refine u_pointed hG hl hd (by omega) (by omega) ?_
      conv => whnf
      refine ⟨?_, trivial⟩
      try dsimp only
      exact fin _ _ (tx_ptd h2 h1).symm
    have other : ¬ (0 ≤ s ∧ -6 ≤ (dg V : Int) - 1 - s) → kd ≠ 1 → zt_W l B (k, cap, A, ng, V, s) m_Te_spell 107 [some (.ref 34), some (.ref (2 + 3 * A : Nat)), some (.int (nI kd)), some (.int (nI (dg V))), some (.int (iI ((dg V : Int) - 1 - s))), none] [] S Q := by
      intro h1 h2
      rcases (show kd = 0 ∨ kd = 2 by omega) with e | e
      · subst e
        have hl1 := ptd_len V 1
        refine zt_go (okt_Te_spell hG hl) [195] 200 ?_
        conv => whnf
        refine ⟨fun z => absurd rfl z, fun _ => ?_⟩
        conv => whnf
        refine ⟨rfl, ?_⟩
        conv => whnf
        refine ⟨tc_34, ?_⟩
        refine u_pointed (b := 1) hG hl hd (by omega) (by omega) ?_
        conv => whnf
        refine ⟨tc_34, ?_⟩
        refine u_power hG hl (by omega) (by rw [List.length_append]; omega) ?_
        conv => whnf
        refine ⟨?_, trivial⟩
        try dsimp only
        rw [List.append_assoc]
        exact fin _ _ (tx_ten h1).symm
      · subst e
        refine zt_go (okt_Te_spell hG hl) [195] 200 ?_
        conv => whnf
        refine ⟨fun _ => ?_, fun z => absurd z (by decide)⟩
        conv => whnf
        refine ⟨rfl, ?_⟩
        conv => whnf
        refine ⟨u_n, ?_⟩
        refine u_isZero hG hl ?_
        conv => whnf
        by_cases hV : V = 0
        · rw [decide_eq_true hV]
          refine ⟨fun z => absurd z (show ¬ bI true = 0 by decide), fun _ => ?_⟩
          subst hV
          rw [dg_0] at *
          rw [show ((1 : Nat) : Int) - 1 - s = 0 - s by omega] at *
          conv => whnf
          rw [iI_neg]
          refine t_fmod (y := 3) hG hl ⟨by omega, by omega⟩ ⟨by decide, by decide⟩ (by decide) ?_
          conv => whnf
          rw [show iI (-(0 - s) % 3) = nI ((-(0 - s)) % 3).toNat by rw [iI_nI]; congr 1; omega]
          refine ⟨tc_34, ?_⟩
          refine u_spellZero hG hl (by omega) (by omega) ?_
          conv => whnf
          rw [show iI (0 - s) + nI ((-(0 - s)) % 3).toNat = iI ((0 - s) + (-(0 - s)) % 3) by rw [iI_nI, iI_add]; congr 1; omega]
          refine ⟨tc_34, ?_⟩
          refine u_power hG hl (by omega) ?_ ?_
          · rw [List.length_append, List.length_append]
            split
            · show _ + (1 + 0) + 12 ≤ _; omega
            · rw [List.length_append, List.length_replicate]; show _ + (1 + (1 + _)) + 12 ≤ _; omega
          · conv => whnf
            refine ⟨?_, trivial⟩
            try dsimp only
            rw [List.append_assoc]
            refine fin _ _ (tx_zero (s := s) (by rw [dg_0]; omega)).symm
        · rw [decide_eq_false hV]
          refine ⟨fun _ => ?_, fun z => absurd rfl z⟩
          have hl1 := ptd_len V (((dg V : Int) - 1 - s) % 3 + 1)
          conv => whnf
          refine t_fmod (y := 3) hG hl rl ⟨by decide, by decide⟩ (by decide) ?_
          conv => whnf
          refine ⟨rfl, ?_⟩
          conv => whnf
          rw [show iI (((dg V : Int) - 1 - s) % 3) + 1 = iI (((dg V : Int) - 1 - s) % 3 + 1) from iI_add _ 1]
          refine ⟨tc_34, ?_⟩
          refine u_pointed hG hl hd (by omega) (by omega) ?_
          conv => whnf
          rw [iI_sub]
          refine ⟨tc_34, ?_⟩
          refine u_power hG hl (by omega) (by rw [List.length_append]; omega) ?_
          conv => whnf
          refine ⟨?_, trivial⟩
          try dsimp only
          rw [List.append_assoc]
          exact fin _ _ (tx_eng h1 hV).symm
    have second : ¬ (kd = 1 ∧ s ≤ 0) → zt_W l B (k, cap, A, ng, V, s) m_Te_spell 64 [some (.ref 34), some (.ref (2 + 3 * A : Nat)), some (.int (nI kd)), some (.int (nI (dg V))), some (.int (iI ((dg V : Int) - 1 - s))), none] [] S Q := by
      intro h0
      refine zt_go (okt_Te_spell hG hl) [90, 107] 200 ?_
      conv => whnf
      by_cases k1 : kd = 1
      · refine ⟨fun _ => ?_, fun z => absurd ((nI_eq (b := 1) (by omega) (by decide)).mpr k1) z⟩
        refine ⟨?_, trivial⟩
        try dsimp only
        exact pointed (by omega) h0
      · refine ⟨fun z => absurd ((nI_eq (b := 1) (by omega) (by decide)).mp z) k1, fun _ => ?_⟩
        conv => whnf
        refine ⟨rfl, ?_⟩
        conv => whnf
        by_cases s0 : s = 0
        · refine ⟨fun _ => ?_, fun z => absurd ((iI_eq rs r0).mpr s0) z⟩
          refine ⟨?_, trivial⟩
          try dsimp only
          exact pointed (by omega) h0
        · refine ⟨fun z => absurd ((iI_eq rs r0).mp z) s0, fun _ => ?_⟩
          conv => whnf
          refine ⟨rfl, ?_⟩
          conv => whnf
          by_cases s1 : s ≤ 0
          · refine ⟨fun _ => ?_, fun z => absurd ((iI_le rs r0).mpr s1) z⟩
            refine ⟨?_, trivial⟩
            try dsimp only
            exact other (by omega) k1
          · refine ⟨fun z => absurd ((iI_le rs r0).mp z) s1, fun _ => ?_⟩
            conv => whnf
            rw [show (-6 : Int32) = iI (-6) by decide]
            by_cases s2 : (dg V : Int) - 1 - s < -6
            · refine ⟨fun _ => ?_, fun z => absurd ((iI_lt rl r6).mpr s2) z⟩
              refine ⟨?_, trivial⟩
              try dsimp only
              exact other (by omega) k1
            · refine ⟨fun z => absurd ((iI_lt rl r6).mp z) s2, fun _ => ?_⟩
              refine ⟨?_, trivial⟩
              try dsimp only
              exact pointed (by omega) h0
    refine zt_go (okt_Te_spell hG hl) [64, 195] 200 ?_
    conv => whnf
    by_cases k1 : kd = 1
    · refine ⟨fun z => absurd ((nI_eq (b := 1) (by omega) (by decide)).mpr k1) z, fun _ => ?_⟩
      conv => whnf
      refine ⟨rfl, ?_⟩
      conv => whnf
      by_cases s1 : s ≤ 0
      · refine ⟨fun z => absurd ((iI_lt r0 rs).mp z) (by omega), fun _ => ?_⟩
        conv => whnf
        refine ⟨tc_34, ?_⟩
        refine u_spellInteger hG hl hd (by omega) (by omega) ?_
        conv => whnf
        refine ⟨?_, trivial⟩
        try dsimp only
        subst k1
        exact fin _ _ (tx_plain s1).symm
      · refine ⟨fun _ => ?_, fun z => absurd ((iI_lt r0 rs).mpr (by omega)) z⟩
        refine ⟨?_, trivial⟩
        try dsimp only
        exact second (by omega)
    · refine ⟨fun _ => ?_, fun z => absurd ((nI_eq (b := 1) (by omega) (by decide)).mp z) k1⟩
      refine ⟨?_, trivial⟩
      try dsimp only
      exact second (by omega)
  refine zt_go (okt_Te_spell hG hl) [44] 200 ?_
  conv => whnf
  refine ⟨rfl, ?_⟩
  conv => whnf
  cases ng
  · refine ⟨fun _ => ?_, fun z => absurd rfl z⟩
    refine ⟨?_, trivial⟩
    try dsimp only
    exact body [] rfl (Nat.zero_le _)
  · refine ⟨fun z => absurd z (show ¬ bI true = 0 by decide), fun _ => ?_⟩
    conv => whnf
    refine ⟨tc_34, ?_⟩
    refine u_append (c := 45) hG hl (by decide) (by show 0 < cap; omega) ?_
    conv => whnf
    refine ⟨?_, trivial⟩
    try dsimp only
    exact body [45] rfl (Nat.le_refl _)
end LH

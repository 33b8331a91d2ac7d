/-! the model: what is written -/
def PT (pa : Nat → Nat) (pr : Nat) (T : List Nat) : Prop := pr = T.length ∧ ∀ i, i < T.length → T[i]? = some (pa i)
theorem PT.add {pa : Nat → Nat} {pr c : Nat} {T : List Nat} (h : PT pa pr T) : PT (zu pa pr c) (pr + 1) (T ++ [c]) := by
  obtain ⟨h1, h2⟩ := h
  refine ⟨by rw [List.length_append, h1]; rfl, fun i hi => ?_⟩
  rw [List.length_append] at hi
  have hi' : i < T.length + 1 := hi
  by_cases q : i = pr
  · rw [q, zu_s, h1, List.getElem?_append_right (Nat.le_refl _), Nat.sub_self]
    rfl
  · rw [zu_n q, List.getElem?_append_left (by omega)]
    exact h2 i (by omega)
def fd (V : Nat) (k : Int) : Nat := if 0 ≤ k ∧ k < dg V then td V (dg V) k.toNat else 0
def figs (V : Nat) (pt : Int) : Nat → Int → List Nat
  | 0, _ => []
  | n + 1, k => (if k = pt then [46, 48 + fd V k] else [48 + fd V k]) ++ figs V pt n (k + 1)
theorem figs_len (V : Nat) (pt : Int) (n : Nat) : ∀ k, (figs V pt n k).length = n + (if k ≤ pt ∧ pt < k + n then 1 else 0) := by
  induction n with
  | zero => intro k; show 0 = 0 + _; rw [if_neg (by omega)]
  | succ n ih =>
    intro k
    show ((if k = pt then [46, 48 + fd V k] else [48 + fd V k]) ++ figs V pt n (k + 1)).length = _
    rw [List.length_append, ih]
    by_cases e : k = pt
    · rw [if_pos e, if_neg (by omega), if_pos (by omega)]
      show 2 + (n + 0) = _
      omega
    · rw [if_neg e]
      show 1 + _ = _
      by_cases q : k + 1 ≤ pt ∧ pt < k + 1 + n
      · rw [if_pos q, if_pos (by omega)]; omega
      · rw [if_neg q, if_neg (by omega)]; omega
theorem fd_lt (V : Nat) (k : Int) : fd V k < 10 := by
  unfold fd
  split
  · exact td_lt _ _ _
  · decide
/-- the digits of a small number -/
def decs (v : Nat) : Nat → List Nat
  | 0 => []
  | k + 1 => decs v k ++ [48 + td v (dg v) k]
theorem decs_len (v k : Nat) : (decs v k).length = k := by
  induction k with
  | zero => rfl
  | succ k ih => show (decs v k ++ [48 + td v (dg v) k]).length = _; rw [List.length_append, ih]; rfl
def expo (e : Int) : List Nat := [69] ++ [if e < 0 then 45 else 43] ++ decs e.natAbs (dg e.natAbs)
def tx_body (V : Nat) (s : Int) (kind : Nat) : List Nat :=
  if kind = 1 ∧ s ≤ 0 then figs V (-1) (if V = 0 then 1 else ((dg V : Int) - s).toNat) 0
  else if 0 ≤ s ∧ (kind = 1 ∨ -6 ≤ (dg V : Int) - 1 - s) then (if (dg V : Int) - s < 1 then figs V (if s = 0 then -1 else (dg V : Int) - s) (s + 1).toNat ((dg V : Int) - s - 1) else figs V (if s = 0 then -1 else (dg V : Int) - s) (dg V) 0)
  else if kind = 0 then figs V 1 (dg V) 0 ++ expo ((dg V : Int) - 1 - s)
  else if V = 0 then figs V 1 (1 + -(3 * (-((dg V : Int) - 1 - s) / 3)) - ((dg V : Int) - 1 - s)).toNat 0 ++ (if -(3 * (-((dg V : Int) - 1 - s) / 3)) = 0 then [] else expo (-(3 * (-((dg V : Int) - 1 - s) / 3))))
  else figs V ((dg V : Int) - 1 - s - 3 * (((dg V : Int) - 1 - s) / 3) + 1) (max (dg V : Int) ((dg V : Int) - 1 - s - 3 * (((dg V : Int) - 1 - s) / 3) + 1)).toNat 0 ++ (if 3 * (((dg V : Int) - 1 - s) / 3) = 0 then [] else expo (3 * (((dg V : Int) - 1 - s) / 3)))
def sp_txt (x : zr) (kind : Nat) : List Nat := (if x.1 then [45] else []) ++ tx_body x.2.1 x.2.2 kind
section KZ
variable {l : Launch} {B : zd_B} {Q : Option Value → zst → Prop} {t ln sz : Nat} {sc : Int} {mo be : Bool} {ts us lz pr fa : Nat} {D K Mn : Nat → Nat} {Mi : Nat → Bool} {Sc : Nat → Int} {rw tp un lf pa : Nat → Nat}
theorem k_print (hG : zd_G B) (hl : l.stackTraces = false) {c : Nat} {L : List Nat} (hP : PT pa pr L) (hc : L.length < 12200) (hq : ∀ pa', PT pa' (L ++ [c]).length (L ++ [c]) → Q none (mS t ln sz sc mo be ts us lz ((L ++ [c]).length) fa D K Mn Mi Sc rw tp un lf (pa'))) : zm_M l B gM m_Mo_print [.ref 53, .int (nI c)] (mS t ln sz sc mo be ts us lz pr fa D K Mn Mi Sc rw tp un lf pa) Q := by
  have h := hP.1
  have h2 : (L ++ [c]).length = pr + 1 := by rw [List.length_append, ← h]; rfl
  rw [h2] at hq
  refine zm_go (okm_Mo_print hG hl) [] 200 ?_
  conv => whnf
  refine ⟨pr, rfl, by omega, ?_⟩
  conv => whnf
  rw [nI_1]
  rw [upd_nI]
  exact ⟨hq _ hP.add, trivial⟩
theorem w_figures (hG : zd_G B) (hl : l.stackTraces = false) {R : Nat → zr} (hR : ROk R) (hM : MR R K Mn Mi Sc) {r : Nat} {fr en pt : Int} (hr : r < 10) (hfr : -20000 ≤ fr) (hen : en ≤ 20000) (hpt : iR pt) :
    ∀ (n : Nat) (k : Int) (pr : Nat) (pa : Nat → Nat) (L : List Nat), k + n = en → fr ≤ k → PT pa pr L → (L ++ figs (R r).2.1 pt n k).length ≤ 12200 →
    (∀ pa', PT pa' (L ++ figs (R r).2.1 pt n k).length (L ++ figs (R r).2.1 pt n k) → Q none (mS t ln sz sc mo be ts us lz ((L ++ figs (R r).2.1 pt n k).length) fa D K Mn Mi Sc rw tp un lf (pa'))) →
    zm_W l B gM m_Mo_figures 3 [some (.ref 53), some (.int (nI r)), some (.int (iI fr)), some (.int (iI en)), some (.int (iI pt)), some (.int (iI k))] [] (mS t ln sz sc mo be ts us lz pr fa D K Mn Mi Sc rw tp un lf pa) Q := by
  obtain ⟨mr, kr, nr, sr⟩ := hM.2 r hr
  have rr := (hR r hr).1
  intro n
  induction n with
  | zero =>
    intro k pr pa L hk hfk hP hc hq
    have hq' := hq pa (by rw [show figs (R r).2.1 pt 0 k = [] from rfl, List.append_nil]; exact ⟨rfl, hP.2⟩)
    rw [show figs (R r).2.1 pt 0 k = [] from rfl, List.append_nil, ← hP.1] at hq'
    refine zm_go (okm_Mo_figures hG hl) [] 200 ?_
    conv => whnf
    refine ⟨fun _ => ?_, fun z => absurd ((iI_le ⟨by omega, by omega⟩ ⟨by omega, by omega⟩).mpr (by omega)) z⟩
    conv => whnf
    exact ⟨hq', trivial⟩
  | succ n ih =>
    intro k pr pa L hk hfk hP hc hq
    have rk : iR k := ⟨by omega, by omega⟩
    have unf : figs (R r).2.1 pt (n + 1) k = (if k = pt then [46, 48 + fd (R r).2.1 k] else [48 + fd (R r).2.1 k]) ++ figs (R r).2.1 pt n (k + 1) := rfl
    rw [unf] at hq hc
    have fl := fd_lt (R r).2.1 k
    have digit : ∀ (pr : Nat) (pa : Nat → Nat) (L' : List Nat), PT pa pr L' → (L' ++ [48 + fd (R r).2.1 k] ++ figs (R r).2.1 pt n (k + 1)).length ≤ 12200 → (∀ pa', PT pa' (L' ++ [48 + fd (R r).2.1 k] ++ figs (R r).2.1 pt n (k + 1)).length (L' ++ [48 + fd (R r).2.1 k] ++ figs (R r).2.1 pt n (k + 1)) → Q none (mS t ln sz sc mo be ts us lz ((L' ++ [48 + fd (R r).2.1 k] ++ figs (R r).2.1 pt n (k + 1)).length) fa D K Mn Mi Sc rw tp un lf (pa'))) → zm_W l B gM m_Mo_figures 22 [some (.ref 53), some (.int (nI r)), some (.int (iI fr)), some (.int (iI en)), some (.int (iI pt)), some (.int (iI k))] [] (mS t ln sz sc mo be ts us lz pr fa D K Mn Mi Sc rw tp un lf pa) Q := by
      intro pr pa L' hP' hc' hq'
      have hlen : L'.length < 12200 := by
        rw [List.length_append, List.length_append] at hc'
        have : [48 + fd (R r).2.1 k].length = 1 := rfl
        omega
      have fin : zm_W l B gM m_Mo_figures 58 [some (.ref 53), some (.int (nI r)), some (.int (iI fr)), some (.int (iI en)), some (.int (iI pt)), some (.int (iI k))] [.int (nI (fd (R r).2.1 k)), .int 48, .ref 53] (mS t ln sz sc mo be ts us lz pr fa D K Mn Mi Sc rw tp un lf pa) Q := by
        refine zm_go (okm_Mo_figures hG hl) [3] 200 ?_
        conv => whnf
        rw [show (48 : Int32) + nI (fd (R r).2.1 k) = nI (48 + fd (R r).2.1 k) from nI_add 48 _]
        refine k_print hG hl hP' hlen (fun pa2 h2 => ?_)
        conv => whnf
        refine ⟨?_, trivial⟩
        try dsimp only
        rw [show iI k + 1 = iI (k + 1) from iI_add k 1]
        exact ih (k + 1) _ pa2 _ (by omega) (by omega) h2 hc' hq'
      unfold fd at fin
      refine zm_go (okm_Mo_figures hG hl) [58] 200 ?_
      conv => whnf
      by_cases c1 : k < 0
      · rw [if_neg (by omega)] at fin
        refine ⟨fun _ => ?_, fun z => absurd ((iI_lt (b := 0) rk ⟨by decide, by decide⟩).mpr c1) z⟩
        conv => whnf
        refine ⟨?_, trivial⟩
        try dsimp only
        exact fin
      · refine ⟨fun z => absurd ((iI_lt (b := 0) rk ⟨by decide, by decide⟩).mp z) c1, fun _ => ?_⟩
        conv => whnf
        refine ⟨r, rfl, by omega, ?_⟩
        conv => whnf
        dsimp only
        rw [mr, iI_nI (dg (R r).2.1)]
        by_cases c2 : (dg (R r).2.1 : Int) ≤ k
        · rw [if_neg (by omega)] at fin
          refine ⟨fun _ => ?_, fun z => absurd ((iI_le ⟨by omega, by omega⟩ rk).mpr c2) z⟩
          conv => whnf
          refine ⟨?_, trivial⟩
          try dsimp only
          exact fin
        · rw [if_pos (by omega), ← kr k.toNat (by omega)] at fin
          refine ⟨fun z => absurd ((iI_le ⟨by omega, by omega⟩ rk).mp z) c2, fun _ => ?_⟩
          conv => whnf
          refine ⟨(1000 * r + k.toNat), by rw [← nI_add, ← lmul, show (1000 : Int32) = nI 1000 from rfl]; congr 1; rw [iI_nI]; congr 1; omega, by omega, ?_⟩
          conv => whnf
          refine ⟨?_, trivial⟩
          try dsimp only
          exact fin
    refine zm_go (okm_Mo_figures hG hl) [22] 200 ?_
    conv => whnf
    refine ⟨fun z => absurd ((iI_le ⟨by omega, by omega⟩ rk).mp z) (by omega), fun _ => ?_⟩
    conv => whnf
    by_cases e : k = pt
    · rw [if_pos e] at hq hc
      refine ⟨fun z => absurd (by rw [e]) z, fun _ => ?_⟩
      conv => whnf
      rw [show (46 : Int32) = nI 46 from rfl]
      have hlen : L.length < 12200 := by
        rw [List.length_append, List.length_append] at hc
        have : [46, 48 + fd (R r).2.1 k].length = 2 := rfl
        omega
      refine k_print hG hl hP hlen (fun pa2 h2 => ?_)
      conv => whnf
      refine ⟨?_, trivial⟩
      try dsimp only
      have assoc : L ++ ([46, 48 + fd (R r).2.1 k] ++ figs (R r).2.1 pt n (k + 1)) = L ++ [46] ++ [48 + fd (R r).2.1 k] ++ figs (R r).2.1 pt n (k + 1) := by
        rw [List.append_assoc, List.append_assoc]
        rfl
      rw [assoc] at hq hc
      exact digit _ pa2 _ h2 hc hq
    · rw [if_neg e] at hq hc
      refine ⟨fun _ => ?_, fun z => absurd ((iI_eq rk hpt).mp z) e⟩
      refine ⟨?_, trivial⟩
      try dsimp only
      rw [← List.append_assoc] at hq hc
      exact digit _ pa _ hP hc hq
theorem k_figures (hG : zd_G B) (hl : l.stackTraces = false) {R : Nat → zr} (hR : ROk R) (hM : MR R K Mn Mi Sc) {r n : Nat} {fr en pt : Int} {L : List Nat} (hr : r < 10) (hfr : -20000 ≤ fr) (hen : en ≤ 20000) (hpt : iR pt) (hn : fr + n = en) (hP : PT pa pr L) (hc : L.length + n + 1 ≤ 12200)
    (hq : ∀ pa', PT pa' (L ++ figs (R r).2.1 pt n fr).length (L ++ figs (R r).2.1 pt n fr) → Q none (mS t ln sz sc mo be ts us lz ((L ++ figs (R r).2.1 pt n fr).length) fa D K Mn Mi Sc rw tp un lf (pa'))) : zm_M l B gM m_Mo_figures [.ref 53, .int (nI r), .int (iI fr), .int (iI en), .int (iI pt)] (mS t ln sz sc mo be ts us lz pr fa D K Mn Mi Sc rw tp un lf pa) Q := by
  have fl := figs_len (R r).2.1 pt n fr
  refine zm_go (okm_Mo_figures hG hl) [3] 200 ?_
  conv => whnf
  refine ⟨?_, trivial⟩
  try dsimp only
  refine w_figures hG hl hR hM hr hfr hen hpt n fr pr pa L hn (Int.le_refl _) hP ?_ hq
  rw [List.length_append, fl]
  split <;> omega
theorem w_exp34 (hG : zd_G B) (hl : l.stackTraces = false) {e : Int32} {v : Nat} (hv : v < 100000) (hq : zm_W l B gM m_Mo_exponent 50 [some (.ref 53), some (.int e), some (.int (nI v)), some (.int (nI (10 ^ (dg v - 1))))] [] (mS t ln sz sc mo be ts us lz pr fa D K Mn Mi Sc rw tp un lf pa) Q) :
    ∀ (d j : Nat), j + d = dg v - 1 → zm_W l B gM m_Mo_exponent 34 [some (.ref 53), some (.int e), some (.int (nI v)), some (.int (nI (10 ^ j)))] [] (mS t ln sz sc mo be ts us lz pr fa D K Mn Mi Sc rw tp un lf pa) Q := by
  have h5 : dg v ≤ 5 := dgle (by decide) (Nat.lt_of_lt_of_le hv (by decide))
  have hlt := dg_lt v
  have hpos := dg_pos v
  have pj : ∀ j, j ≤ 4 → (10 : Nat) ^ j ≤ 10000 := fun j hj => Nat.le_trans (Nat.pow_le_pow_right (by decide) hj) (by decide)
  intro d
  induction d with
  | zero =>
    intro j hj
    have e1 : j = dg v - 1 := by omega
    subst e1
    have hp := pow10_pos (dg v - 1)
    have hpj := pj (dg v - 1) (by omega)
    refine zm_go (okm_Mo_exponent hG hl) [50] 200 ?_
    conv => whnf
    refine ⟨nI_ne0 hp (by omega), ?_⟩
    conv => whnf
    rw [nI_dv (by omega) (by omega) hp]
    have : v / 10 ^ (dg v - 1) ≤ 9 := by
      have : v / 10 ^ (dg v - 1) < 10 := by
        apply Nat.div_lt_of_lt_mul
        rw [← Nat.pow_succ]
        rwa [show (dg v - 1).succ = dg v by omega]
      omega
    refine ⟨fun _ => ?_, fun z => absurd ((nI_leI (b := 9) (by omega) (by decide)).mpr this) z⟩
    refine ⟨?_, trivial⟩
    try dsimp only
    exact hq
  | succ d ih =>
    intro j hj
    have hp := pow10_pos j
    have hpj := pj j (by omega)
    have hge : 10 * 10 ^ j ≤ v := by
      have h0 : 0 < v := by
        rcases Nat.eq_zero_or_pos v with c | c
        · rw [c, dg_0] at hj; omega
        · exact c
      rw [Nat.mul_comm, ← Nat.pow_succ]
      exact Nat.le_trans (Nat.pow_le_pow_right (by decide) (by omega)) (dg_ge v h0)
    have hdv : 10 ≤ v / 10 ^ j := by rw [Nat.le_div_iff_mul_le hp]; exact hge
    have hdv2 := Nat.div_le_self v (10 ^ j)
    refine zm_go (okm_Mo_exponent hG hl) [34] 200 ?_
    conv => whnf
    refine ⟨nI_ne0 hp (by omega), ?_⟩
    conv => whnf
    rw [nI_dv (by omega) (by omega) hp]
    refine ⟨fun z => absurd ((nI_leI (b := 9) (by omega) (by decide)).mp z) (by omega), fun _ => ?_⟩
    conv => whnf
    refine ⟨?_, trivial⟩
    try dsimp only
    rw [show nI (10 ^ j) * 10 = nI (10 ^ (j + 1)) by rw [show (10 : Int32) = nI 10 from rfl, lmul, Nat.pow_succ]]
    exact ih (j + 1) (by omega)
theorem w_exp50 (hG : zd_G B) (hl : l.stackTraces = false) {e : Int32} {v : Nat} {L : List Nat} (hv : v < 100000) (hc : L.length + 10 ≤ 12200)
    (hq : ∀ pa', PT pa' (L ++ decs v (dg v)).length (L ++ decs v (dg v)) → Q none (mS t ln sz sc mo be ts us lz ((L ++ decs v (dg v)).length) fa D K Mn Mi Sc rw tp un lf (pa'))) :
    ∀ (d k : Nat) (pr : Nat) (pa : Nat → Nat), k + d = dg v → PT pa pr (L ++ decs v k) → zm_W l B gM m_Mo_exponent 50 [some (.ref 53), some (.int e), some (.int (nI v)), some (.int (nI (if k < dg v then 10 ^ (dg v - 1 - k) else 0)))] [] (mS t ln sz sc mo be ts us lz pr fa D K Mn Mi Sc rw tp un lf pa) Q := by
  have h5 : dg v ≤ 5 := dgle (by decide) (Nat.lt_of_lt_of_le hv (by decide))
  have pj : ∀ j, j ≤ 4 → (10 : Nat) ^ j ≤ 10000 := fun j hj => Nat.le_trans (Nat.pow_le_pow_right (by decide) hj) (by decide)
  intro d
  induction d with
  | zero =>
    intro k pr pa hk hP
    have e1 : k = dg v := by omega
    subst e1
    rw [if_neg (by omega)]
    have := hq pa ⟨rfl, hP.2⟩
    rw [← hP.1] at this
    refine zm_go (okm_Mo_exponent hG hl) [] 200 ?_
    conv => whnf
    refine ⟨fun _ => ?_, fun z => absurd (by decide) z⟩
    conv => whnf
    exact ⟨this, trivial⟩
  | succ d ih =>
    intro k pr pa hk hP
    rw [if_pos (by omega)]
    have hp := pow10_pos (dg v - 1 - k)
    have hpj := pj (dg v - 1 - k) (by omega)
    have hdv2 := Nat.div_le_self v (10 ^ (dg v - 1 - k))
    have hlen : (L ++ decs v k).length < 12200 := by rw [List.length_append, decs_len]; omega
    refine zm_go (okm_Mo_exponent hG hl) [50] 200 ?_
    conv => whnf
    refine ⟨fun z => absurd z (nI_nle hp (by omega)), fun _ => ?_⟩
    conv => whnf
    refine ⟨nI_ne0 hp (by omega), ?_⟩
    conv => whnf
    rw [nI_dv (by omega) (by omega) hp]
    refine ⟨by decide, ?_⟩
    conv => whnf
    rw [show (10 : Int32) = nI 10 from rfl, nI_rm (by omega) (by decide) (by decide), show (48 : Int32) + nI (v / 10 ^ (dg v - 1 - k) % 10) = nI (48 + td v (dg v) k) from nI_add 48 _]
    refine k_print hG hl hP hlen (fun pa2 h2 => ?_)
    conv => whnf
    refine ⟨by decide, ?_⟩
    conv => whnf
    refine ⟨?_, trivial⟩
    try dsimp only
    have e3 : (if k + 1 < dg v then 10 ^ (dg v - 1 - (k + 1)) else 0) = 10 ^ (dg v - 1 - k) / 10 := by
      by_cases q : k + 1 < dg v
      · rw [if_pos q, show dg v - 1 - k = (dg v - 1 - (k + 1)) + 1 by omega, Nat.pow_succ]
        omega
      · rw [if_neg q, show dg v - 1 - k = 0 by omega]
    have e4 : nI (10 ^ (dg v - 1 - k)) / 10 = nI (10 ^ (dg v - 1 - k) / 10) := nI_dv (b := 10) (by omega) (by decide) (by decide)
    rw [e4, ← e3]
    have e5 : L ++ decs v k ++ [48 + td v (dg v) k] = L ++ decs v (k + 1) := List.append_assoc _ _ _
    rw [e5] at h2 ⊢
    exact ih (k + 1) _ pa2 (by omega) h2
theorem k_exponent (hG : zd_G B) (hl : l.stackTraces = false) {e : Int} {L : List Nat} (he : -50000 < e ∧ e < 50000) (hP : PT pa pr L) (hc : L.length + 20 ≤ 12200)
    (hq : ∀ pa', PT pa' (L ++ expo e).length (L ++ expo e) → Q none (mS t ln sz sc mo be ts us lz ((L ++ expo e).length) fa D K Mn Mi Sc rw tp un lf (pa'))) : zm_M l B gM m_Mo_exponent [.ref 53, .int (iI e)] (mS t ln sz sc mo be ts us lz pr fa D K Mn Mi Sc rw tp un lf pa) Q := by
  have re : iR e := ⟨by omega, by omega⟩
  have body : ∀ (pr : Nat) (pa : Nat → Nat) (c : Nat), c = (if e < 0 then 45 else 43) → PT pa pr (L ++ [69] ++ [c]) → zm_W l B gM m_Mo_exponent 21 [some (.ref 53), some (.int (iI e)), none, none] [] (mS t ln sz sc mo be ts us lz pr fa D K Mn Mi Sc rw tp un lf pa) Q := by
    intro pr pa c hc1 hP2
    have l31 : zm_W l B gM m_Mo_exponent 31 [some (.ref 53), some (.int (iI e)), none, none] [.int (nI e.natAbs)] (mS t ln sz sc mo be ts us lz pr fa D K Mn Mi Sc rw tp un lf pa) Q := by
      have asc : ∀ X, L ++ [69] ++ [c] ++ X = L ++ ([69] ++ [if e < 0 then 45 else 43] ++ X) := by
        intro X
        rw [hc1]
        simp only [List.append_assoc]
      have w50 := w_exp50 (Q := Q) (t := t) (ln := ln) (sz := sz) (sc := sc) (mo := mo) (be := be) (ts := ts) (us := us) (lz := lz) (fa := fa) (D := D) (K := K) (Mn := Mn) (Mi := Mi) (Sc := Sc) (rw := rw) (tp := tp) (un := un) (lf := lf) (e := iI e) (v := e.natAbs) (L := L ++ [69] ++ [c]) hG hl (by omega) (by rw [List.length_append, List.length_append]; show L.length + 1 + 1 + 10 ≤ _; omega) (fun pa' h => by
        rw [asc] at h ⊢
        exact hq pa' h) (dg e.natAbs) 0 pr pa (by omega) (by
          show PT pa pr (L ++ [69] ++ [c] ++ [])
          rw [List.append_nil]
          exact hP2)
      rw [if_pos (show 0 < dg e.natAbs from dg_pos _), Nat.sub_zero] at w50
      refine zm_go (okm_Mo_exponent hG hl) [34] 200 ?_
      conv => whnf
      refine ⟨?_, trivial⟩
      try dsimp only
      rw [show (1 : Int32) = nI (10 ^ 0) from rfl]
      exact w_exp34 hG hl (by omega) w50 (dg e.natAbs - 1) 0 (by omega)
    refine zm_go (okm_Mo_exponent hG hl) [31] 200 ?_
    conv => whnf
    by_cases h : e < 0
    · refine ⟨fun z => absurd ((iI_le (a := 0) ⟨by decide, by decide⟩ re).mp z) (by omega), fun _ => ?_⟩
      conv => whnf
      refine ⟨?_, trivial⟩
      try dsimp only
      rw [iI_neg, show iI (-e) = nI e.natAbs by rw [iI_nI]; congr 1; omega]
      exact l31
    · refine ⟨fun _ => ?_, fun z => absurd ((iI_le (a := 0) ⟨by decide, by decide⟩ re).mpr (by omega)) z⟩
      conv => whnf
      refine ⟨?_, trivial⟩
      try dsimp only
      rw [show iI e = nI e.natAbs by rw [iI_nI]; congr 1; omega] at l31 ⊢
      exact l31
  refine zm_go (okm_Mo_exponent hG hl) [21] 200 ?_
  conv => whnf
  rw [show (69 : Int32) = nI 69 from rfl]
  refine k_print hG hl hP (by omega) (fun pa2 h2 => ?_)
  conv => whnf
  have hl2 : (L ++ [69]).length < 12200 := by rw [List.length_append]; show L.length + 1 < _; omega
  by_cases h : e < 0
  · refine ⟨fun z => absurd ((iI_le (a := 0) ⟨by decide, by decide⟩ re).mp z) (by omega), fun _ => ?_⟩
    conv => whnf
    rw [show (45 : Int32) = nI 45 from rfl]
    refine k_print hG hl h2 hl2 (fun pa3 h3 => ?_)
    conv => whnf
    refine ⟨?_, trivial⟩
    try dsimp only
    exact body _ pa3 45 (by rw [if_pos h]) h3
  · refine ⟨fun _ => ?_, fun z => absurd ((iI_le (a := 0) ⟨by decide, by decide⟩ re).mpr (by omega)) z⟩
    conv => whnf
    rw [show (43 : Int32) = nI 43 from rfl]
    refine k_print hG hl h2 hl2 (fun pa3 h3 => ?_)
    conv => whnf
    refine ⟨?_, trivial⟩
    try dsimp only
    exact body _ pa3 43 (by rw [if_neg h]) h3
theorem k_down3 (hG : zd_G B) (hl : l.stackTraces = false) {a : Int} (ha : -100000 < a ∧ a < 100000) (hq : Q (some (.int (iI (3 * (a / 3))))) (mS t ln sz sc mo be ts us lz pr fa D K Mn Mi Sc rw tp un lf pa)) : zm_M l B gM m_Mo_down3 [.int (iI a)] (mS t ln sz sc mo be ts us lz pr fa D K Mn Mi Sc rw tp un lf pa) Q := by
  have ra : iR a := ⟨by omega, by omega⟩
  refine zm_go (okm_Mo_down3 hG hl) [] 200 ?_
  conv => whnf
  by_cases h : a < 0
  · refine ⟨fun _ => ?_, fun z => absurd ((iI_lt (b := 0) ra ⟨by decide, by decide⟩).mpr h) z⟩
    conv => whnf
    refine ⟨by decide, ?_⟩
    conv => whnf
    rw [show (2 : Int32) - iI a = iI (2 - a) from iI_sub 2 a, show (3 : Int32) = iI 3 from rfl, iI_div ⟨by omega, by omega⟩ (by omega) ⟨by decide, by decide⟩ (by decide), iI_mul, iI_neg, show -((2 - a) / 3 * 3) = 3 * (a / 3) by omega]
    exact ⟨hq, trivial⟩
  · refine ⟨fun z => absurd ((iI_lt (b := 0) ra ⟨by decide, by decide⟩).mp z) h, fun _ => ?_⟩
    conv => whnf
    refine ⟨by decide, ?_⟩
    conv => whnf
    rw [show (3 : Int32) = iI 3 from rfl, iI_div ra (by omega) ⟨by decide, by decide⟩ (by decide), iI_mul, show a / 3 * 3 = 3 * (a / 3) by omega]
    exact ⟨hq, trivial⟩
set_option maxRecDepth 4000 in
theorem w_wtn77 (hG : zd_G B) (hl : l.stackTraces = false) {R : Nat → zr} (hR : ROk R) (hM : MR R K Mn Mi Sc) {A kd : Nat} {L : List Nat} (la : A < 10) (hk : kd < 3) (hP : PT pa pr L) (hL : L.length ≤ 1)
    (hq : ∀ pa', PT pa' (L ++ tx_body (R A).2.1 (R A).2.2 kd).length (L ++ tx_body (R A).2.1 (R A).2.2 kd) → (L ++ tx_body (R A).2.1 (R A).2.2 kd).length ≤ 12200 → Q (some (.int (nI (L ++ tx_body (R A).2.1 (R A).2.2 kd).length))) (mS t ln sz sc mo be ts us lz ((L ++ tx_body (R A).2.1 (R A).2.2 kd).length) fa D K Mn Mi Sc rw tp un lf (pa'))) : zm_W l B gM m_Mo_written 77 [some (.ref 53), some (.int (nI A)), some (.int (nI kd)), some (.int (nI (dg (R A).2.1))), some (.int (iI (R A).2.2)), some (.int (iI ((dg (R A).2.1 : Int) - 1 - (R A).2.2))), none] [] (mS t ln sz sc mo be ts us lz pr fa D K Mn Mi Sc rw tp un lf pa) Q := by
  obtain ⟨ma, ka, na, sa⟩ := hM.2 A la
  obtain ⟨ra, ra2, ra3, -⟩ := hR A la
  have pd := dg_pos (R A).2.1
  have rs : iR (R A).2.2 := ⟨by omega, by omega⟩
  have rn : iR (dg (R A).2.1 : Int) := ⟨by omega, by omega⟩
  have re : iR ((dg (R A).2.1 : Int) - 1 - (R A).2.2) := ⟨by omega, by omega⟩
  have r0 : iR 0 := ⟨by decide, by decide⟩
  have rm1 : iR (-1) := ⟨by decide, by decide⟩
  have r1 : iR 1 := ⟨by decide, by decide⟩
  have flen := figs_len (R A).2.1
  have exl : ∀ e : Int, -50000 < e → e < 50000 → (expo e).length ≤ 7 := by
    intro e h1 h2
    unfold expo
    rw [List.length_append, List.length_append, decs_len]
    have : dg e.natAbs ≤ 5 := dgle (by decide) (by omega)
    show 1 + 1 + _ ≤ 7
    omega
  have done : ∀ (X : List Nat) (pa' : Nat → Nat) (x6 : Option Value), X = L ++ tx_body (R A).2.1 (R A).2.2 kd → PT pa' X.length X → X.length ≤ 12200 → zm_W l B gM m_Mo_written 289 [some (.ref 53), some (.int (nI A)), some (.int (nI kd)), some (.int (nI (dg (R A).2.1))), some (.int (iI (R A).2.2)), some (.int (iI ((dg (R A).2.1 : Int) - 1 - (R A).2.2))), x6] [] (mS t ln sz sc mo be ts us lz (X.length) fa D K Mn Mi Sc rw tp un lf (pa')) Q := by
    intro X pa' x6 hX hP' hc
    subst hX
    refine zm_go (okm_Mo_written hG hl) [] 200 ?_
    conv => whnf
    exact ⟨hq pa' hP' hc, trivial⟩
  have efs : nI (dg (R A).2.1) - iI (R A).2.2 = iI ((dg (R A).2.1 : Int) - (R A).2.2) := by rw [iI_nI, iI_sub]
  unfold tx_body at hq done
  have later : ¬ (kd = 1 ∧ (R A).2.2 ≤ 0) → zm_W l B gM m_Mo_written 113 [some (.ref 53), some (.int (nI A)), some (.int (nI kd)), some (.int (nI (dg (R A).2.1))), some (.int (iI (R A).2.2)), some (.int (iI ((dg (R A).2.1 : Int) - 1 - (R A).2.2))), none] [] (mS t ln sz sc mo be ts us lz pr fa D K Mn Mi Sc rw tp un lf pa) Q := by
    intro hn1
    rw [if_neg hn1] at done
    have sci : ¬ (0 ≤ (R A).2.2 ∧ (kd = 1 ∨ -6 ≤ (dg (R A).2.1 : Int) - 1 - (R A).2.2)) → zm_W l B gM m_Mo_written 170 [some (.ref 53), some (.int (nI A)), some (.int (nI kd)), some (.int (nI (dg (R A).2.1))), some (.int (iI (R A).2.2)), some (.int (iI ((dg (R A).2.1 : Int) - 1 - (R A).2.2))), none] [] (mS t ln sz sc mo be ts us lz pr fa D K Mn Mi Sc rw tp un lf pa) Q := by
      intro hn2
      rw [if_neg hn2] at done
      refine zm_go (okm_Mo_written hG hl) [268, 289] 200 ?_
      conv => whnf
      by_cases h0 : kd = 0
      · rw [if_pos h0] at done
        refine ⟨fun z => absurd ((nI_z (by omega)).mpr h0) z, fun _ => ?_⟩
        conv => whnf
        rw [iI_nI (dg (R A).2.1), show (0 : Int32) = iI 0 from rfl, show (1 : Int32) = iI 1 from rfl]
        refine k_figures (n := dg (R A).2.1) hG hl hR hM la (by decide) (by omega) r1 (by omega) hP (by omega) (fun pa2 h2 => ?_)
        have hl2 : (L ++ figs (R A).2.1 1 (dg (R A).2.1) 0).length ≤ 1100 := by rw [List.length_append, flen]; split <;> omega
        conv => whnf
        refine k_exponent (L := L ++ figs (R A).2.1 1 (dg (R A).2.1) 0) hG hl (by omega) h2 (by omega) (fun pa3 h3 => ?_)
        conv => whnf
        refine ⟨?_, trivial⟩
        try dsimp only
        refine done _ pa3 _ (List.append_assoc _ _ _) h3 ?_
        rw [List.length_append]
        have := exl ((dg (R A).2.1 : Int) - 1 - (R A).2.2) (by omega) (by omega)
        omega
      · rw [if_neg h0] at done
        refine ⟨fun _ => ?_, fun z => absurd ((nI_z (by omega)).mp z) h0⟩
        conv => whnf
        refine k_isZero hG hl hM la ?_
        conv => whnf
        by_cases ez : (R A).2.1 = 0
        · rw [if_pos ez] at done
          rw [decide_eq_true ez]
          refine ⟨fun z => absurd z (by decide), fun _ => ?_⟩
          conv => whnf
          rw [iI_neg]
          refine k_down3 hG hl (by omega) ?_
          conv => whnf
          rw [iI_neg]
          generalize hb : -(3 * (-((dg (R A).2.1 : Int) - 1 - (R A).2.2) / 3)) = b at done ⊢
          have bb : -50000 < b ∧ b < 50000 ∧ (dg (R A).2.1 : Int) - 1 - (R A).2.2 ≤ b ∧ b ≤ (dg (R A).2.1 : Int) - 1 - (R A).2.2 + 2 := by omega
          rw [show (1 : Int32) + iI b - iI ((dg (R A).2.1 : Int) - 1 - (R A).2.2) = iI (1 + b - ((dg (R A).2.1 : Int) - 1 - (R A).2.2)) by show iI 1 + _ - _ = _; rw [iI_add, iI_sub], show (0 : Int32) = iI 0 from rfl, show (1 : Int32) = iI 1 from rfl]
          refine k_figures (n := (1 + b - ((dg (R A).2.1 : Int) - 1 - (R A).2.2)).toNat) hG hl hR hM la (by decide) (by omega) r1 (by omega) hP (by omega) (fun pa2 h2 => ?_)
          have hl2 : (L ++ figs (R A).2.1 1 (1 + b - ((dg (R A).2.1 : Int) - 1 - (R A).2.2)).toNat 0).length ≤ 1100 := by rw [List.length_append, flen]; split <;> omega
          conv => whnf
          by_cases hb0 : b = 0
          · rw [if_pos hb0, List.append_nil] at done
            refine ⟨fun _ => ?_, fun z => absurd (by rw [hb0]; rfl) z⟩
            conv => whnf
            refine ⟨?_, trivial⟩
            try dsimp only
            exact done _ pa2 _ rfl h2 (by omega)
          · rw [if_neg hb0] at done
            refine ⟨fun z => absurd ((iI_eq ⟨by omega, by omega⟩ r0).mp z) hb0, fun _ => ?_⟩
            conv => whnf
            refine k_exponent (L := L ++ figs (R A).2.1 1 (1 + b - ((dg (R A).2.1 : Int) - 1 - (R A).2.2)).toNat 0) hG hl (by omega) h2 (by omega) (fun pa3 h3 => ?_)
            conv => whnf
            refine ⟨?_, trivial⟩
            try dsimp only
            refine done _ pa3 _ (List.append_assoc _ _ _) h3 ?_
            rw [List.length_append]
            have := exl b (by omega) (by omega)
            omega
        · rw [if_neg ez] at done
          rw [decide_eq_false ez]
          refine ⟨fun _ => ?_, fun z => absurd rfl z⟩
          conv => whnf
          refine k_down3 hG hl (by omega) ?_
          conv => whnf
          generalize hb : 3 * (((dg (R A).2.1 : Int) - 1 - (R A).2.2) / 3) = b at done ⊢
          have bb : -50000 < b ∧ b < 50000 ∧ b ≤ (dg (R A).2.1 : Int) - 1 - (R A).2.2 ∧ (dg (R A).2.1 : Int) - 1 - (R A).2.2 ≤ b + 2 := by omega
          have ebp : iI ((dg (R A).2.1 : Int) - 1 - (R A).2.2) - iI b + 1 = iI ((dg (R A).2.1 : Int) - 1 - (R A).2.2 - b + 1) := by show _ - _ + iI 1 = _; rw [iI_sub, iI_add]
          rw [ebp, iI_nI (dg (R A).2.1)]
          have fig : zm_W l B gM m_Mo_written 268 [some (.ref 53), some (.int (nI A)), some (.int (nI kd)), some (.int (nI (dg (R A).2.1))), some (.int (iI (R A).2.2)), some (.int (iI ((dg (R A).2.1 : Int) - 1 - (R A).2.2))), some (.int (iI b))] [.int (iI (max (dg (R A).2.1 : Int) ((dg (R A).2.1 : Int) - 1 - (R A).2.2 - b + 1))), .int 0, .int (nI A), .ref 53] (mS t ln sz sc mo be ts us lz pr fa D K Mn Mi Sc rw tp un lf pa) Q := by
            refine zm_go (okm_Mo_written hG hl) [289] 200 ?_
            conv => whnf
            rw [ebp, show (0 : Int32) = iI 0 from rfl]
            refine k_figures (n := (max (dg (R A).2.1 : Int) ((dg (R A).2.1 : Int) - 1 - (R A).2.2 - b + 1)).toNat) hG hl hR hM la (by decide) (by omega) ⟨by omega, by omega⟩ (by omega) hP (by omega) (fun pa2 h2 => ?_)
            have hl2 : (L ++ figs (R A).2.1 ((dg (R A).2.1 : Int) - 1 - (R A).2.2 - b + 1) (max (dg (R A).2.1 : Int) ((dg (R A).2.1 : Int) - 1 - (R A).2.2 - b + 1)).toNat 0).length ≤ 1100 := by rw [List.length_append, flen]; split <;> omega
            conv => whnf
            by_cases hb0 : b = 0
            · rw [if_pos hb0, List.append_nil] at done
              refine ⟨fun _ => ?_, fun z => absurd (by rw [hb0]; rfl) z⟩
              refine ⟨?_, trivial⟩
              try dsimp only
              exact done _ pa2 _ rfl h2 (by omega)
            · rw [if_neg hb0] at done
              refine ⟨fun z => absurd ((iI_eq ⟨by omega, by omega⟩ r0).mp z) hb0, fun _ => ?_⟩
              conv => whnf
              refine k_exponent (L := L ++ figs (R A).2.1 ((dg (R A).2.1 : Int) - 1 - (R A).2.2 - b + 1) (max (dg (R A).2.1 : Int) ((dg (R A).2.1 : Int) - 1 - (R A).2.2 - b + 1)).toNat 0) hG hl (by omega) h2 (by omega) (fun pa3 h3 => ?_)
              conv => whnf
              refine ⟨?_, trivial⟩
              try dsimp only
              refine done _ pa3 _ (List.append_assoc _ _ _) h3 ?_
              rw [List.length_append]
              have := exl b (by omega) (by omega)
              omega
          by_cases hle : (dg (R A).2.1 : Int) ≤ (dg (R A).2.1 : Int) - 1 - (R A).2.2 - b + 1
          · rw [show max (dg (R A).2.1 : Int) ((dg (R A).2.1 : Int) - 1 - (R A).2.2 - b + 1) = (dg (R A).2.1 : Int) - 1 - (R A).2.2 - b + 1 by omega] at fig
            refine ⟨fun _ => ?_, fun z => absurd ((iI_le rn ⟨by omega, by omega⟩).mpr hle) z⟩
            conv => whnf
            refine ⟨?_, trivial⟩
            try dsimp only
            rw [ebp]
            exact fig
          · rw [show max (dg (R A).2.1 : Int) ((dg (R A).2.1 : Int) - 1 - (R A).2.2 - b + 1) = (dg (R A).2.1 : Int) by omega] at fig
            refine ⟨fun z => absurd ((iI_le rn ⟨by omega, by omega⟩).mp z) hle, fun _ => ?_⟩
            conv => whnf
            refine ⟨?_, trivial⟩
            try dsimp only
            rw [iI_nI (dg (R A).2.1)] at fig
            exact fig
    have pnt : (0 ≤ (R A).2.2 ∧ (kd = 1 ∨ -6 ≤ (dg (R A).2.1 : Int) - 1 - (R A).2.2)) → zm_W l B gM m_Mo_written 130 [some (.ref 53), some (.int (nI A)), some (.int (nI kd)), some (.int (nI (dg (R A).2.1))), some (.int (iI (R A).2.2)), some (.int (iI ((dg (R A).2.1 : Int) - 1 - (R A).2.2))), none] [] (mS t ln sz sc mo be ts us lz pr fa D K Mn Mi Sc rw tp un lf pa) Q := by
      intro hn2
      rw [if_pos hn2] at done
      have fig : ∀ (fr pt : Int) (n : Nat), fr + n = dg (R A).2.1 → -20000 ≤ fr → iR pt → n ≤ 10100 → L ++ figs (R A).2.1 pt n fr = L ++ (if (dg (R A).2.1 : Int) - (R A).2.2 < 1 then figs (R A).2.1 (if (R A).2.2 = 0 then -1 else (dg (R A).2.1 : Int) - (R A).2.2) ((R A).2.2 + 1).toNat ((dg (R A).2.1 : Int) - (R A).2.2 - 1) else figs (R A).2.1 (if (R A).2.2 = 0 then -1 else (dg (R A).2.1 : Int) - (R A).2.2) (dg (R A).2.1) 0) → zm_W l B gM m_Mo_written 164 [some (.ref 53), some (.int (nI A)), some (.int (nI kd)), some (.int (nI (dg (R A).2.1))), some (.int (iI (R A).2.2)), some (.int (iI ((dg (R A).2.1 : Int) - 1 - (R A).2.2))), none] [.int (iI pt), .int (iI (dg (R A).2.1 : Int)), .int (iI fr), .int (nI A), .ref 53] (mS t ln sz sc mo be ts us lz pr fa D K Mn Mi Sc rw tp un lf pa) Q := by
        intro fr pt n f1 f2 f3 f4 f5
        refine zm_go (okm_Mo_written hG hl) [289] 200 ?_
        conv => whnf
        refine k_figures (n := n) hG hl hR hM la f2 (by omega) f3 f1 hP (by omega) (fun pa2 h2 => ?_)
        conv => whnf
        refine ⟨?_, trivial⟩
        try dsimp only
        refine done _ pa2 _ f5 h2 ?_
        rw [List.length_append, flen]
        split <;> omega
      have mid : ∀ (fr : Int) (n : Nat), fr + n = dg (R A).2.1 → -20000 ≤ fr → n ≤ 10100 → (∀ pt, L ++ figs (R A).2.1 pt n fr = L ++ (if (dg (R A).2.1 : Int) - (R A).2.2 < 1 then figs (R A).2.1 pt ((R A).2.2 + 1).toNat ((dg (R A).2.1 : Int) - (R A).2.2 - 1) else figs (R A).2.1 pt (dg (R A).2.1) 0)) → zm_W l B gM m_Mo_written 150 [some (.ref 53), some (.int (nI A)), some (.int (nI kd)), some (.int (nI (dg (R A).2.1))), some (.int (iI (R A).2.2)), some (.int (iI ((dg (R A).2.1 : Int) - 1 - (R A).2.2))), none] [.int (iI fr), .int (nI A), .ref 53] (mS t ln sz sc mo be ts us lz pr fa D K Mn Mi Sc rw tp un lf pa) Q := by
        intro fr n f1 f2 f4 f5
        refine zm_go (okm_Mo_written hG hl) [164] 200 ?_
        conv => whnf
        by_cases hs0 : (R A).2.2 = 0
        · refine ⟨fun z => absurd (by rw [hs0]; rfl) z, fun _ => ?_⟩
          conv => whnf
          refine ⟨?_, trivial⟩
          try dsimp only
          rw [iI_nI (dg (R A).2.1)]
          exact fig fr (-1) n f1 f2 rm1 f4 (by rw [if_pos hs0]; exact f5 _)
        · refine ⟨fun _ => ?_, fun z => absurd ((iI_eq rs r0).mp z) hs0⟩
          conv => whnf
          refine ⟨?_, trivial⟩
          try dsimp only
          rw [efs]
          have := fig fr ((dg (R A).2.1 : Int) - (R A).2.2) n f1 f2 ⟨by omega, by omega⟩ f4 (by rw [if_neg hs0]; exact f5 _)
          rw [← iI_nI (dg (R A).2.1)] at this
          exact this
      refine zm_go (okm_Mo_written hG hl) [150] 200 ?_
      conv => whnf
      rw [efs]
      by_cases hlt : (dg (R A).2.1 : Int) - (R A).2.2 < 1
      · refine ⟨fun z => absurd ((iI_le (a := 1) r1 ⟨by omega, by omega⟩).mp z) (by omega), fun _ => ?_⟩
        conv => whnf
        refine ⟨?_, trivial⟩
        try dsimp only
        rw [efs, show iI ((dg (R A).2.1 : Int) - (R A).2.2) - 1 = iI ((dg (R A).2.1 : Int) - (R A).2.2 - 1) from iI_sub _ 1]
        refine mid _ ((R A).2.2 + 1).toNat (by omega) (by omega) (by omega) (fun pt => by rw [if_pos hlt])
      · refine ⟨fun _ => ?_, fun z => absurd ((iI_le (a := 1) r1 ⟨by omega, by omega⟩).mpr (by omega)) z⟩
        conv => whnf
        refine ⟨?_, trivial⟩
        try dsimp only
        refine mid 0 (dg (R A).2.1) (by omega) (by decide) (by omega) (fun pt => by rw [if_neg hlt])
    refine zm_go (okm_Mo_written hG hl) [130, 170] 200 ?_
    conv => whnf
    by_cases hs : (R A).2.2 < 0
    · refine ⟨fun _ => ?_, fun z => absurd ((iI_lt rs r0).mpr hs) z⟩
      refine ⟨?_, trivial⟩
      try dsimp only
      exact sci (by omega)
    · refine ⟨fun z => absurd ((iI_lt rs r0).mp z) hs, fun _ => ?_⟩
      conv => whnf
      by_cases h1 : kd = 1
      · refine ⟨fun _ => ?_, fun z => absurd ((nI_eq (b := 1) (by omega) (by decide)).mpr h1) z⟩
        refine ⟨?_, trivial⟩
        try dsimp only
        exact pnt ⟨by omega, Or.inl h1⟩
      · refine ⟨fun z => absurd ((nI_eq (b := 1) (by omega) (by decide)).mp z) h1, fun _ => ?_⟩
        conv => whnf
        rw [show (-6 : Int32) = iI (-6) by decide]
        by_cases h6 : (dg (R A).2.1 : Int) - 1 - (R A).2.2 < -6
        · refine ⟨fun _ => ?_, fun z => absurd ((iI_lt re ⟨by decide, by decide⟩).mpr h6) z⟩
          refine ⟨?_, trivial⟩
          try dsimp only
          exact sci (by omega)
        · refine ⟨fun z => absurd ((iI_lt re ⟨by decide, by decide⟩).mp z) h6, fun _ => ?_⟩
          refine ⟨?_, trivial⟩
          try dsimp only
          exact pnt ⟨by omega, Or.inr (by omega)⟩
  refine zm_go (okm_Mo_written hG hl) [113, 289] 200 ?_
  conv => whnf
  by_cases h1 : kd = 1
  · refine ⟨fun z => absurd ((nI_eq (b := 1) (by omega) (by decide)).mpr h1) z, fun _ => ?_⟩
    conv => whnf
    by_cases hs : 0 < (R A).2.2
    · refine ⟨fun _ => ?_, fun z => absurd ((iI_lt r0 rs).mpr hs) z⟩
      refine ⟨?_, trivial⟩
      try dsimp only
      exact later (by omega)
    · rw [if_pos ⟨h1, by omega⟩] at done
      refine ⟨fun z => absurd ((iI_lt r0 rs).mp z) hs, fun _ => ?_⟩
      conv => whnf
      refine k_isZero hG hl hM la ?_
      conv => whnf
      by_cases ez : (R A).2.1 = 0
      · rw [if_pos ez] at done
        rw [decide_eq_true ez]
        refine ⟨fun z => absurd z (by decide), fun _ => ?_⟩
        conv => whnf
        rw [show (-1 : Int32) = iI (-1) by decide, show (0 : Int32) = iI 0 from rfl, show (1 : Int32) = iI 1 from rfl]
        refine k_figures (n := 1) hG hl hR hM la (by decide) (by decide) rm1 (by decide) hP (by omega) (fun pa2 h2 => ?_)
        conv => whnf
        refine ⟨?_, trivial⟩
        try dsimp only
        refine done _ pa2 _ rfl h2 ?_
        rw [List.length_append, flen]
        split <;> omega
      · rw [if_neg ez] at done
        rw [decide_eq_false ez]
        refine ⟨fun _ => ?_, fun z => absurd rfl z⟩
        conv => whnf
        rw [efs, show (0 : Int32) = iI 0 from rfl, show (-1 : Int32) = iI (-1) by decide]
        refine k_figures (n := ((dg (R A).2.1 : Int) - (R A).2.2).toNat) hG hl hR hM la (by decide) (by omega) rm1 (by omega) hP (by omega) (fun pa2 h2 => ?_)
        conv => whnf
        refine ⟨?_, trivial⟩
        try dsimp only
        refine done _ pa2 _ rfl h2 ?_
        rw [List.length_append, flen]
        split <;> omega
  · refine ⟨fun _ => ?_, fun z => absurd ((nI_eq (b := 1) (by omega) (by decide)).mp z) h1⟩
    refine ⟨?_, trivial⟩
    try dsimp only
    exact later (by omega)
theorem k_written (hG : zd_G B) (hl : l.stackTraces = false) {R : Nat → zr} (hR : ROk R) (hM : MR R K Mn Mi Sc) {a kind : Int} (ha : iR a) (hk : iR kind)
    (hb : ((a < 0 ∨ 10 ≤ a) ∨ kind < 0 ∨ 2 < kind) → Q (some (.int 0)) (mS (1) ln sz sc mo be ts us lz pr fa D K Mn Mi Sc rw tp un lf pa))
    (hq : ∀ A kd : Nat, a = A → kind = kd → A < 10 → kd < 3 → ∀ pa', PT pa' (sp_txt (R A) kd).length (sp_txt (R A) kd) → (sp_txt (R A) kd).length ≤ 12200 → Q (some (.int (nI (sp_txt (R A) kd).length))) (mS (0) ln sz sc mo be ts us lz ((sp_txt (R A) kd).length) fa D K Mn Mi Sc rw tp un lf (pa'))) : zm_M l B gM m_Mo_written [.ref 53, .int (iI a), .int (iI kind)] (mS t ln sz sc mo be ts us lz pr fa D K Mn Mi Sc rw tp un lf pa) Q := by
  have bad : ((a < 0 ∨ 10 ≤ a) ∨ kind < 0 ∨ 2 < kind) → zm_W l B gM m_Mo_written 17 [some (.ref 53), some (.int (iI a)), some (.int (iI kind)), none, none, none, none] [.ref 53] (mS t ln sz sc mo be ts us lz pr fa D K Mn Mi Sc rw tp un lf pa) Q := by
    intro hc
    refine zm_go (okm_Mo_written hG hl) [] 200 ?_
    conv => whnf
    refine ⟨fun z => absurd z (by decide), fun _ => ?_⟩
    conv => whnf
    exact ⟨hb hc, trivial⟩
  refine zm_go (okm_Mo_written hG hl) [17, 77] 200 ?_
  conv => whnf
  refine k_no hG hl ha ?_
  by_cases ca : a < 0 ∨ 10 ≤ a
  · rw [decide_eq_true ca]
    conv => whnf
    refine ⟨fun _ => ?_, fun z => absurd z (by decide)⟩
    refine ⟨?_, trivial⟩
    try dsimp only
    exact bad (Or.inl ca)
  · rw [decide_eq_false ca]
    conv => whnf
    refine ⟨fun z => absurd rfl z, fun _ => ?_⟩
    conv => whnf
    by_cases c1 : kind < 0
    · refine ⟨fun _ => ?_, fun z => absurd ((iI_lt (b := 0) hk ⟨by decide, by decide⟩).mpr c1) z⟩
      refine ⟨?_, trivial⟩
      try dsimp only
      exact bad (Or.inr (Or.inl c1))
    · refine ⟨fun z => absurd ((iI_lt (b := 0) hk ⟨by decide, by decide⟩).mp z) c1, fun _ => ?_⟩
      conv => whnf
      by_cases c2 : 2 < kind
      · refine ⟨fun z => absurd ((iI_le (b := 2) hk ⟨by decide, by decide⟩).mp z) (by omega), fun _ => ?_⟩
        refine ⟨?_, trivial⟩
        try dsimp only
        exact bad (Or.inr (Or.inr c2))
      · refine ⟨fun _ => ?_, fun z => absurd ((iI_le (b := 2) hk ⟨by decide, by decide⟩).mpr (by omega)) z⟩
        conv => whnf
        obtain ⟨A, ea, la⟩ := iI_of_nat ca
        obtain ⟨kd, ek⟩ : ∃ kd : Nat, kind = kd := ⟨kind.toNat, by omega⟩
        have hqq := hq A kd ea ek la (by omega)
        subst ea
        subst ek
        rw [← iI_nI, ← iI_nI]
        refine ⟨fun _ => ?_, fun z => absurd (by decide) z⟩
        conv => whnf
        obtain ⟨ma, ka, na, sa⟩ := hM.2 A la
        obtain ⟨ra, ra2, ra3, -⟩ := hR A la
        unfold sp_txt at hqq
        refine ⟨A, rfl, by omega, ?_⟩
        conv => whnf
        dsimp only
        rw [na]
        cases hneg : (R A).1
        · rw [hneg, if_neg (by decide)] at hqq
          refine ⟨fun _ => ?_, fun z => absurd rfl z⟩
          conv => whnf
          refine ⟨A, rfl, by omega, ?_⟩
          conv => whnf
          refine ⟨A, rfl, by omega, ?_⟩
          conv => whnf
          refine ⟨?_, trivial⟩
          try dsimp only
          rw [ma, sa, show nI (dg (R A).2.1) - 1 - iI (R A).2.2 = iI ((dg (R A).2.1 : Int) - 1 - (R A).2.2) by rw [iI_nI, show (1 : Int32) = iI 1 from rfl, iI_sub, iI_sub]]
          exact w_wtn77 (L := []) hG hl hR hM la (by omega) ⟨rfl, fun i hi => absurd hi (Nat.not_lt_zero _)⟩ (Nat.zero_le _) (fun pa2 h2 h3 => hqq pa2 h2 h3)
        · rw [hneg, if_pos rfl] at hqq
          refine ⟨fun z => absurd z (by decide), fun _ => ?_⟩
          conv => whnf
          rw [show (45 : Int32) = nI 45 from rfl]
          refine k_print (L := []) hG hl ⟨rfl, fun i hi => absurd hi (Nat.not_lt_zero _)⟩ (by decide) (fun pa2 h2 => ?_)
          conv => whnf
          refine ⟨A, rfl, by omega, ?_⟩
          conv => whnf
          refine ⟨A, rfl, by omega, ?_⟩
          conv => whnf
          refine ⟨?_, trivial⟩
          try dsimp only
          rw [ma, sa, show nI (dg (R A).2.1) - 1 - iI (R A).2.2 = iI ((dg (R A).2.1 : Int) - 1 - (R A).2.2) by rw [iI_nI, show (1 : Int32) = iI 1 from rfl, iI_sub, iI_sub]]
          exact w_wtn77 (L := [45]) hG hl hR hM la (by omega) h2 (Nat.le_refl _) (fun pa3 h3 h4 => hqq pa3 h3 h4)
end KZ

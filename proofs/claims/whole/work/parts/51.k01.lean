/-! the model: registers, trim, load, store -/
theorem nI_s (n : Nat) : nI (n + 1) = nI n + 1 := (nI_1 n).symm
/-- any row, one place changed -/
def zpu {α : Type} (f : Nat → α) (k : Nat) (v : α) : Nat → α := fun j => if j = k then v else f j
theorem zpu_s {α : Type} {f : Nat → α} {k : Nat} {v : α} : zpu f k v k = v := if_pos rfl
theorem zpu_n {α : Type} {f : Nat → α} {k j : Nat} {v : α} (h : j ≠ k) : zpu f k v j = f j := if_neg h
theorem upd_bI (g : Nat → Bool) (k : Nat) (v : Bool) : upd (fun i => bI (g i)) k (bI v) = fun i => bI (zpu g k v i) := by
  funext j
  unfold upd zpu
  split <;> rfl
theorem upd_iI (g : Nat → Int) (k : Nat) (v : Int) : upd (fun i => iI (g i)) k (iI v) = fun i => iI (zpu g k v i) := by
  funext j
  unfold upd zpu
  split <;> rfl
theorem zu_lt {g : Nat → Nat} {k v b : Nat} (h : ∀ i, g i < b) (hv : v < b) : ∀ i, zu g k v i < b := fun i => by
  unfold zu
  split
  · exact hv
  · exact h i
/-- a register: below 0, the number, the scale -/
abbrev zr : Type := Bool × Nat × Int
def ROk (R : Nat → zr) : Prop := ∀ r, r < 10 → dg (R r).2.1 ≤ 1000 ∧ -10000 ≤ (R r).2.2 ∧ (R r).2.2 ≤ 10000 ∧ ((R r).1 = true → (R r).2.1 ≠ 0)
def MR (R : Nat → zr) (K Mn : Nat → Nat) (Mi : Nat → Bool) (Sc : Nat → Int) : Prop := (∀ i, K i < 10) ∧ ∀ r, r < 10 → Mn r = dg (R r).2.1 ∧ (∀ k, k < dg (R r).2.1 → K (1000 * r + k) = td (R r).2.1 (dg (R r).2.1) k) ∧ Mi r = (R r).1 ∧ Sc r = (R r).2.2
theorem top0 {g : Nat → Nat} {V : Nat} (hd : ∀ i, g i < 10) (hv : tv g (dg V) = V) : g 0 = 0 ↔ V = 0 := by
  have h := tv_td_of (g := g) (n := dg V) (fun i _ => hd i) 0 (dg_pos V)
  rw [hv] at h
  rw [h]
  constructor
  · intro e
    exact Decidable.byContradiction fun q => td_dg0 q e
  · intro e
    rw [e]
    unfold td
    simp
theorem lmul {a b : Nat} : nI a * nI b = nI (a * b) := (Int32.ofNat_mul a b).symm
section KB
variable {l : Launch} {B : zd_B} {Q : Option Value → zst → Prop} {t ln sz : Nat} {sc : Int} {mo be : Bool} {ts us lz pr fa : Nat} {D K Mn : Nat → Nat} {Mi : Nat → Bool} {Sc : Nat → Int} {rw tp un lf pa : Nat → Nat}
theorem w_trim2 (hG : zd_G B) (hl : l.stackTraces = false) (hs : sz ≤ 4400) (hd : ∀ i, rw i < 10) {zz : Nat} (z1 : zz ≤ sz)
    (hq : ∀ g', (∀ j, j < sz - zz → g' j = rw (j + zz)) → (∀ j, g' j < 10) → zm_W l B gM m_Mo_trim 59 [some (.ref 53), some (.int (nI zz)), some (.int (nI (sz - zz)))] [] (mS t ln sz sc mo be ts us lz pr fa D K Mn Mi Sc (g') tp un lf pa) Q) :
    ∀ (d i : Nat) (g : Nat → Nat), i + d = sz - zz → (∀ j, j < i → g j = rw (j + zz)) → (∀ j, i ≤ j → g j = rw j) → zm_W l B gM m_Mo_trim 29 [some (.ref 53), some (.int (nI zz)), some (.int (nI i))] [] (mS t ln sz sc mo be ts us lz pr fa D K Mn Mi Sc (g) tp un lf pa) Q := by
  intro d
  induction d with
  | zero =>
    intro i g hi h1 h2
    have e : i = sz - zz := by omega
    subst e
    refine zm_go (okm_Mo_trim hG hl) [59] 200 ?_
    conv => whnf
    rw [nI_add]
    refine ⟨fun z => ?_, fun z => ?_⟩
    · refine ⟨?_, trivial⟩
      try dsimp only
      refine hq g h1 (fun j => ?_)
      by_cases q : j < sz - zz
      · rw [h1 j q]; exact hd _
      · rw [h2 j (by omega)]; exact hd _
    · exact absurd ((nI_ge0 (by omega) (by omega)).mpr (by omega)) z
  | succ d ih =>
    intro i g hi h1 h2
    refine zm_go (okm_Mo_trim hG hl) [29] 200 ?_
    conv => whnf
    rw [nI_add]
    refine ⟨fun z => ?_, fun z => ?_⟩
    · exact absurd ((nI_ge0 (by omega) (by omega)).mp z) (by omega)
    · conv => whnf
      refine ⟨(i + zz), nI_add _ _, by omega, ?_⟩
      conv => whnf
      refine ⟨i, rfl, by omega, ?_⟩
      conv => whnf
      refine ⟨?_, trivial⟩
      try dsimp only
      rw [nI_1]
      rw [upd_nI]
      refine ih (i + 1) _ (by omega) (fun j hj => ?_) (fun j hj => ?_)
      · by_cases q : j = i
        · rw [q, zu_s, h2 (i + zz) (by omega)]
        · rw [zu_n q]; exact h1 j (by omega)
      · rw [zu_n (by omega)]; exact h2 j (by omega)
theorem k_trim (hG : zd_G B) (hl : l.stackTraces = false) (hs : sz ≤ 4400) (hd : ∀ i, rw i < 10)
    (hq : ∀ g', (∀ i, g' i < 10) → tv g' (dg (tv rw sz)) = tv rw sz → Q none (mS t ln (dg (tv rw sz)) sc mo (be && decide (tv rw sz ≠ 0)) ts us lz pr fa D K Mn Mi Sc (g') tp un lf pa)) : zm_M l B gM m_Mo_trim [.ref 53] (mS t ln sz sc mo be ts us lz pr fa D K Mn Mi Sc rw tp un lf pa) Q := by
  have fin : ∀ (g' : Nat → Nat) (a b : Option Value), (∀ i, g' i < 10) → tv g' (dg (tv rw sz)) = tv rw sz → zm_W l B gM m_Mo_trim 91 [some (.ref 53), a, b] [] (mS t ln (dg (tv rw sz)) sc mo be ts us lz pr fa D K Mn Mi Sc (g') tp un lf pa) Q := by
    intro g' a b h1 h2
    have h3 := top0 h1 h2
    refine zm_go (okm_Mo_trim hG hl) [] 200 ?_
    conv => whnf
    cases be
    · refine ⟨fun z => ?_, fun z => absurd rfl z⟩
      conv => whnf
      refine ⟨false, rfl, ?_⟩
      conv => whnf
      refine ⟨?_, trivial⟩
      try dsimp only
      exact hq g' h1 h2
    · refine ⟨fun z => absurd z (by decide), fun z => ?_⟩
      conv => whnf
      refine ⟨0, rfl, by omega, ?_⟩
      conv => whnf
      refine ⟨fun z => ?_, fun z => ?_⟩
      · have z' := h3.mp ((nI_z (by have := h1 0; omega)).mp z)
        conv => whnf
        refine ⟨false, rfl, ?_⟩
        conv => whnf
        refine ⟨?_, trivial⟩
        try dsimp only
        have := hq g' h1 h2
        rw [show (true && decide (tv rw sz ≠ 0)) = false by simp [z']] at this
        exact this
      · have z' : tv rw sz ≠ 0 := fun q => z ((nI_z (by have := h1 0; omega)).mpr (h3.mpr q))
        conv => whnf
        refine ⟨true, rfl, ?_⟩
        conv => whnf
        refine ⟨?_, trivial⟩
        try dsimp only
        have := hq g' h1 h2
        rw [show (true && decide (tv rw sz ≠ 0)) = true by simp [z']] at this
        exact this
  by_cases e : sz = 0
  · subst e
    refine zm_go (okm_Mo_trim hG hl) [27] 200 ?_
    conv => whnf
    refine ⟨fun z => ?_, fun z => absurd (by decide) z⟩
    refine ⟨?_, trivial⟩
    try dsimp only
    refine zm_go (okm_Mo_trim hG hl) [91] 200 ?_
    conv => whnf
    refine ⟨fun z => ?_, fun z => absurd (by decide) z⟩
    conv => whnf
    refine ⟨fun z => absurd rfl z, fun z => ?_⟩
    conv => whnf
    refine ⟨0, rfl, by omega, ?_⟩
    conv => whnf
    refine ⟨?_, trivial⟩
    try dsimp only
    rw [show (0 : Int32) = nI 0 from rfl]
    rw [upd_nI]
    have := fin (zu rw 0 0) (some (.int (nI 0))) (some (.int (nI 0))) (zu_lt hd (by decide))
    have e0 : tv rw 0 = 0 := rfl
    rw [e0, dg_0] at this
    refine this ?_
    show 0 * 10 + zu rw 0 0 0 = 0
    rw [zu_s]
  · obtain ⟨zz, a1, a2, a3⟩ := lead_ex rw sz (by omega)
    have hdg := lead_dg hd a1 a2 a3
    refine zm_go (okm_Mo_trim hG hl) [2] 200 ?_
    conv => whnf
    refine ⟨?_, trivial⟩
    try dsimp only
    refine w_trim1 hG hl hs hd a1 a2 a3 ?_ zz 0 (by omega)
    refine zm_go (okm_Mo_trim hG hl) [29] 200 ?_
    conv => whnf
    refine ⟨?_, trivial⟩
    try dsimp only
    refine w_trim2 hG hl hs hd (Nat.le_of_lt a1) (fun g' b1 b2 => ?_) (sz - zz) 0 rw (by omega) (fun j hj => by omega) (fun j _ => rfl)
    refine zm_go (okm_Mo_trim hG hl) [91] 200 ?_
    conv => whnf
    refine ⟨fun z => ?_, fun z => absurd ((nI_z (by omega)).mp z) e⟩
    conv => whnf
    refine ⟨?_, trivial⟩
    try dsimp only
    rw [nI_sub (Nat.le_of_lt a1)]
    have f := fin g' (some (.int (nI zz))) (some (.int (nI (sz - zz)))) b2 (by
      rw [hdg, ← tv_drop (Nat.le_of_lt a1) a2]
      exact tv_congr (fun i hi => by rw [b1 i hi, Nat.add_comm]))
    rw [hdg] at f
    exact f
theorem w_load (hG : zd_G B) (hl : l.stackTraces = false) {r : Nat} (hr : r < 10) (hs : sz ≤ 1000)
    (hq : ∀ g', (∀ j, j < sz → g' j = K (1000 * r + j)) → (∀ j, sz ≤ j → g' j = rw j) → zm_W l B gM m_Mo_load 44 [some (.ref 53), some (.int (nI r)), some (.int (nI sz))] [] (mS t ln sz sc mo be ts us lz pr fa D K Mn Mi Sc (g') tp un lf pa) Q) :
    ∀ (d i : Nat) (g : Nat → Nat), i + d = sz → (∀ j, j < i → g j = K (1000 * r + j)) → (∀ j, i ≤ j → g j = rw j) → zm_W l B gM m_Mo_load 12 [some (.ref 53), some (.int (nI r)), some (.int (nI i))] [] (mS t ln sz sc mo be ts us lz pr fa D K Mn Mi Sc (g) tp un lf pa) Q := by
  intro d
  induction d with
  | zero =>
    intro i g hi h1 h2
    have e : i = sz := by omega
    subst e
    refine zm_go (okm_Mo_load hG hl) [44] 200 ?_
    conv => whnf
    refine ⟨fun z => ?_, fun z => absurd (Int32.le_refl _) z⟩
    refine ⟨?_, trivial⟩
    try dsimp only
    exact hq g h1 h2
  | succ d ih =>
    intro i g hi h1 h2
    refine zm_go (okm_Mo_load hG hl) [12] 200 ?_
    conv => whnf
    refine ⟨fun z => absurd ((nI_ge0 (by omega) (by omega)).mp z) (by omega), fun z => ?_⟩
    conv => whnf
    refine ⟨(1000 * r + i), by rw [← nI_add, ← lmul]; rfl, by omega, ?_⟩
    conv => whnf
    refine ⟨i, rfl, by omega, ?_⟩
    conv => whnf
    refine ⟨?_, trivial⟩
    try dsimp only
    rw [nI_1]
    rw [upd_nI]
    refine ih (i + 1) _ (by omega) (fun j hj => ?_) (fun j hj => ?_)
    · by_cases q : j = i
      · rw [q, zu_s]
      · rw [zu_n q]; exact h1 j (by omega)
    · rw [zu_n (by omega)]; exact h2 j (by omega)
/-- a register taken up -/
theorem k_load (hG : zd_G B) (hl : l.stackTraces = false) {R : Nat → zr} (hR : ROk R) (hM : MR R K Mn Mi Sc) {r : Nat} (hr : r < 10) (hd : ∀ i, rw i < 10)
    (hq : ∀ g', (∀ i, g' i < 10) → tv g' (dg (R r).2.1) = (R r).2.1 → Q none (mS t ln (dg (R r).2.1) ((R r).2.2) (false) ((R r).1) ts us lz pr fa D K Mn Mi Sc (g') tp un lf pa)) : zm_M l B gM m_Mo_load [.ref 53, .int (nI r)] (mS t ln sz sc mo be ts us lz pr fa D K Mn Mi Sc rw tp un lf pa) Q := by
  obtain ⟨h1, h2, h3, h4⟩ := hM.2 r hr
  have hb := hR r hr
  refine zm_go (okm_Mo_load hG hl) [12] 200 ?_
  conv => whnf
  refine ⟨r, rfl, by omega, ?_⟩
  conv => whnf
  refine ⟨?_, trivial⟩
  try dsimp only
  rw [h1]
  refine w_load (sz := dg (R r).2.1) hG hl hr hb.1 (fun g' b1 b2 => ?_) (dg (R r).2.1) 0 rw (by omega) (fun j hj => by omega) (fun j _ => rfl)
  refine zm_go (okm_Mo_load hG hl) [] 200 ?_
  conv => whnf
  refine ⟨r, rfl, by omega, ?_⟩
  conv => whnf
  refine ⟨false, rfl, ?_⟩
  conv => whnf
  refine ⟨r, rfl, by omega, ?_⟩
  conv => whnf
  refine ⟨(Mi r), rfl, ?_⟩
  conv => whnf
  refine ⟨?_, trivial⟩
  try dsimp only
  rw [h3, h4, iI_l ⟨by omega, by omega⟩]
  refine hq g' (fun i => ?_) ?_
  · by_cases q : i < dg (R r).2.1
    · rw [b1 i q]; exact hM.1 _
    · rw [b2 i (by omega)]; exact hd i
  · rw [tv_congr (fun i hi => (b1 i hi).trans (h2 i hi))]
    exact tv_td (dg_lt _)
end KB

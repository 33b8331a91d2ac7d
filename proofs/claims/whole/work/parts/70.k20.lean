/-! the model: root -/
def sp_root (x : zr) (P md : Nat) : Option (Nat × Int) := fit P (x.2.2 / 2) md false (rV x.2.1 x.2.2 ((2 * P - dg x.2.1 + x.2.2) / 2 + 1)) ((2 * P - dg x.2.1 + x.2.2) / 2 + 1) (rL x.2.1 x.2.2 ((2 * P - dg x.2.1 + x.2.2) / 2 + 1))
theorem isq_ge {a N : Nat} (h : a * a ≤ N) : a ≤ isq N := by
  have := (isq_s N).2
  have := sq_lt (Nat.lt_of_le_of_lt h this)
  omega
theorem root_dg {V P : Nat} {s : Int} (hp : 1 ≤ P) (h : V ≠ 0) : P + 1 ≤ dg (rV V s ((2 * P - dg V + s) / 2 + 1)) := by
  have hd := dg_pos V
  have e := dg_cut h (s := s) (n := (2 * ((2 * P - dg V + s) / 2 + 1) - s + dg V).toNat) (by omega)
  rw [show s + ((2 * ((2 * P - dg V + s) / 2 + 1) - s + dg V).toNat : Int) - dg V = 2 * ((2 * P - dg V + s) / 2 + 1) by omega] at e
  unfold rV
  have hne : cutV V s (2 * ((2 * P - dg V + s) / 2 + 1)) ≠ 0 := by
    intro q
    rw [q, dg_0] at e
    omega
  have hge := dg_ge _ (Nat.pos_of_ne_zero hne)
  rw [e] at hge
  have h2 : 10 ^ P * 10 ^ P ≤ cutV V s (2 * ((2 * P - dg V + s) / 2 + 1)) := by
    rw [← Nat.pow_add]
    exact Nat.le_trans (Nat.pow_le_pow_right (by decide) (by omega)) hge
  have h3 := isq_ge h2
  have h4 := dg_lt (isq (cutV V s (2 * ((2 * P - dg V + s) / 2 + 1))))
  have : P < dg (isq (cutV V s (2 * ((2 * P - dg V + s) / 2 + 1)))) := pow_lt_cancel (by omega)
  omega
theorem root_zero {s t : Int} : rV 0 s t = 0 ∧ rL 0 s t = false := by
  have e1 : cutV 0 s (2 * t) = 0 := by unfold cutV; simp
  have e2 : cutL 0 s (2 * t) = false := by unfold cutL; simp
  have e3 : rV 0 s t = 0 := by unfold rV; rw [e1]; rfl
  refine ⟨e3, ?_⟩
  unfold rL
  rw [e1, e2, e3]
  rfl
/-- the model's way to the same -/
theorem root_same {x : zr} {P md : Nat} {t : Int} (hp : 1 ≤ P) (h1 : rV x.2.1 x.2.2 t ≠ 0 ∨ rL x.2.1 x.2.2 t = false) (h2 : rL x.2.1 x.2.2 t = false ∨ P + 1 ≤ dg (rV x.2.1 x.2.2 t)) :
    sp_root x P md = fit P (x.2.2 / 2) md false (rV x.2.1 x.2.2 t) t (rL x.2.1 x.2.2 t) := by
  unfold sp_root
  refine fit_str (rStr x.2.1 x.2.2) hp ?_ ?_ h1 h2
  · by_cases hx : x.2.1 = 0
    · rw [hx]; exact Or.inr root_zero.2
    · have := root_dg (P := P) (s := x.2.2) hp hx
      refine Or.inl (fun q => ?_)
      rw [q, dg_0] at this
      omega
  · by_cases hx : x.2.1 = 0
    · rw [hx]; exact Or.inl root_zero.2
    · exact Or.inr (root_dg hp hx)
theorem tmod2 (s : Int) : s.tmod 2 = 0 ↔ s % 2 = 0 := by
  constructor
  · intro h
    have := Int.dvd_of_tmod_eq_zero h
    omega
  · intro h
    exact Int.tmod_eq_zero_of_dvd (by omega)
theorem tdiv2 {s : Int} (h : s % 2 = 0) : s.tdiv 2 = s / 2 := Int.tdiv_eq_ediv_of_dvd (by omega)
/-- a root so far -/
def RT (g : Nat → Nat) (n N : Nat) (lf : Nat → Nat) (lz : Nat) : Prop := (∀ i, g i < 10) ∧ (n = 0 ∨ 10 ^ (n - 1) ≤ tv g n) ∧ tv g n = isq N ∧ (∀ j, j < lz → lf j < 10) ∧ tv lf lz = N - isq N * isq N
theorem RT.dg {g lf : Nat → Nat} {n N lz : Nat} (h : RT g n N lf lz) (hn : 0 < n) : dg (isq N) = n := by
  have a := h.2.1.resolve_left (by omega)
  have b := tv_lt (g := g) (n := n) (fun i _ => h.1 i)
  rw [h.2.2.1] at a b
  rw [show n = (n - 1) + 1 by omega] at b ⊢
  exact dg_eq a b
section KU
variable {l : Launch} {B : zd_B} {Q : Option Value → zst → Prop} {t ln sz : Nat} {sc : Int} {mo be : Bool} {ts us lz pr fa : Nat} {D K Mn : Nat → Nat} {Mi : Nat → Bool} {Sc : Nat → Int} {rw tp un lf pa : Nat → Nat}
/-- is anything left? -/
theorem w_rt349 (hG : zd_G B) (hl : l.stackTraces = false) {A T M P od : Nat} {sA wi : Int} (hlz : lz ≤ 2200) (hf : ∀ j, j < lz → lf j < 10)
    (hq : zm_W l B gM m_Mo_root 386 [some (.ref 53), some (.int (nI A)), some (.int (nI T)), some (.int (nI P)), some (.int (nI M)), some (.int (iI sA)), some (.long (lI wi)), none, some (.int (nI od)), some (.int (bI (decide (tv lf lz ≠ 0)))), some (.int (nI lz))] [] (mS t ln sz sc mo be ts us lz pr fa D K Mn Mi Sc rw tp un lf pa) Q) :
    ∀ (d i : Nat), i + d = lz → zm_W l B gM m_Mo_root 349 [some (.ref 53), some (.int (nI A)), some (.int (nI T)), some (.int (nI P)), some (.int (nI M)), some (.int (iI sA)), some (.long (lI wi)), none, some (.int (nI od)), some (.int (bI (decide (tv lf i ≠ 0)))), some (.int (nI i))] [] (mS t ln sz sc mo be ts us lz pr fa D K Mn Mi Sc rw tp un lf pa) Q := by
  intro d
  induction d with
  | zero =>
    intro i hi
    have e : i = lz := by omega
    subst e
    refine zm_go (okm_Mo_root hG hl) [386] 200 ?_
    conv => whnf
    refine ⟨fun _ => ?_, fun z => absurd (Int32.le_refl _) z⟩
    refine ⟨?_, trivial⟩
    try dsimp only
    exact hq
  | succ d ih =>
    intro i hi
    have stp : tv lf (i + 1) = tv lf i * 10 + lf i := rfl
    have nxt := ih (i + 1) (by omega)
    rw [stp] at nxt
    have hi10 := hf i (by omega)
    refine zm_go (okm_Mo_root hG hl) [349] 200 ?_
    conv => whnf
    refine ⟨fun z => absurd ((nI_ge0 (by omega) (by omega)).mp z) (by omega), fun _ => ?_⟩
    conv => whnf
    generalize tv lf i = X at nxt ⊢
    by_cases hX : X = 0
    · subst hX
      refine ⟨fun z => absurd rfl z, fun _ => ?_⟩
      conv => whnf
      refine ⟨i, rfl, by omega, ?_⟩
      conv => whnf
      refine ⟨fun z => ?_, fun z => ?_⟩
      · have z2 := (nI_z (by omega)).mp z
        conv => whnf
        refine ⟨?_, trivial⟩
        try dsimp only
        rw [nI_1]
        rw [z2] at nxt
        exact nxt
      · have z2 : lf i ≠ 0 := fun q => z ((nI_z (by omega)).mpr q)
        conv => whnf
        refine ⟨?_, trivial⟩
        try dsimp only
        rw [nI_1]
        rw [show (decide (0 * 10 + lf i ≠ 0)) = true by simp [z2]] at nxt
        exact nxt
    · rw [show decide (X ≠ 0) = true by simp [hX]]
      rw [show (decide (X * 10 + lf i ≠ 0)) = true by simp; omega] at nxt
      refine ⟨fun _ => ?_, fun z => absurd z (by decide)⟩
      conv => whnf
      refine ⟨?_, trivial⟩
      try dsimp only
      rw [nI_1]
      exact nxt
set_option maxRecDepth 4000 in
theorem w_rt418 (hG : zd_G B) (hl : l.stackTraces = false) {A T M P od : Nat} {sA wi : Int} {x9 : Int32} (hlz : lz ≤ 2200) (hf : ∀ j, j < lz → lf j < 10)
    (hq : zm_W l B gM m_Mo_root 459 [some (.ref 53), some (.int (nI A)), some (.int (nI T)), some (.int (nI P)), some (.int (nI M)), some (.int (iI sA)), some (.long (lI wi)), none, some (.int (nI od)), some (.int x9), some (.int (nI lz))] [] (mS t ln sz sc (decide (tv lf lz ≠ 0)) be ts us lz pr fa D K Mn Mi Sc rw tp un lf pa) Q) :
    ∀ (d i : Nat), i + d = lz → zm_W l B gM m_Mo_root 418 [some (.ref 53), some (.int (nI A)), some (.int (nI T)), some (.int (nI P)), some (.int (nI M)), some (.int (iI sA)), some (.long (lI wi)), none, some (.int (nI od)), some (.int x9), some (.int (nI i))] [] (mS t ln sz sc (decide (tv lf i ≠ 0)) be ts us lz pr fa D K Mn Mi Sc rw tp un lf pa) Q := by
  intro d
  induction d with
  | zero =>
    intro i hi
    have e : i = lz := by omega
    subst e
    refine zm_go (okm_Mo_root hG hl) [459] 200 ?_
    conv => whnf
    refine ⟨fun _ => ?_, fun z => absurd (Int32.le_refl _) z⟩
    refine ⟨?_, trivial⟩
    try dsimp only
    exact hq
  | succ d ih =>
    intro i hi
    have stp : tv lf (i + 1) = tv lf i * 10 + lf i := rfl
    have nxt := ih (i + 1) (by omega)
    rw [stp] at nxt
    have hi10 := hf i (by omega)
    refine zm_go (okm_Mo_root hG hl) [418] 200 ?_
    conv => whnf
    refine ⟨fun z => absurd ((nI_ge0 (by omega) (by omega)).mp z) (by omega), fun _ => ?_⟩
    conv => whnf
    generalize tv lf i = X at nxt ⊢
    by_cases hX : X = 0
    · subst hX
      refine ⟨fun z => absurd rfl z, fun _ => ?_⟩
      conv => whnf
      refine ⟨i, rfl, by omega, ?_⟩
      conv => whnf
      refine ⟨fun z => ?_, fun z => ?_⟩
      · have z2 := (nI_z (by omega)).mp z
        conv => whnf
        refine ⟨false, rfl, ?_⟩
        conv => whnf
        refine ⟨?_, trivial⟩
        try dsimp only
        rw [nI_1]
        rw [z2] at nxt
        exact nxt
      · have z2 : lf i ≠ 0 := fun q => z ((nI_z (by omega)).mpr q)
        conv => whnf
        refine ⟨true, rfl, ?_⟩
        conv => whnf
        refine ⟨?_, trivial⟩
        try dsimp only
        rw [nI_1]
        rw [show (decide (0 * 10 + lf i ≠ 0)) = true by simp [z2]] at nxt
        exact nxt
    · rw [show decide (X ≠ 0) = true by simp [hX]]
      rw [show (decide (X * 10 + lf i ≠ 0)) = true by simp; omega] at nxt
      refine ⟨fun _ => ?_, fun z => absurd z (by decide)⟩
      conv => whnf
      refine ⟨true, rfl, ?_⟩
      conv => whnf
      refine ⟨?_, trivial⟩
      try dsimp only
      rw [nI_1]
      exact nxt
set_option maxRecDepth 4000 in
/-- all figures are there -/
theorem w_rt410 (hG : zd_G B) (hl : l.stackTraces = false) {R : Nat → zr} (hR : ROk R) (hM : MR R K Mn Mi Sc) {A T M P od : Nat} {sA wi : Int} (la : A < 10) (lt : T < 10) (lm : M < 8) (hp : 1 ≤ P) (hp2 : P ≤ 1000) (hA : (R A).2.1 ≠ 0) (ht : t = 0) (hfa : fa = 2) (hsA : sA = (R A).2.2) (hwi : wi = sA / 2) (hod : (od : Int) = sA % 2)
    (hq : Res Q R T 0 ln pr 2 D pa K Mn Mi Sc false (sp_root (R A) P M)) {j : Nat} {x9 : Int32} {x10 : Option Value} (hj : j ≤ 2000) (hsc : sc = (sA + od) / 2 + j) (hsz : 1 ≤ sz) (hsz2 : sz ≤ 2000) (hlz : lz ≤ 2200) (hT : RT rw sz ((R A).2.1 * 10 ^ (od + 2 * j)) lf lz) (hend : tv lf lz = 0 ∨ P < sz) : zm_W l B gM m_Mo_root 410 [some (.ref 53), some (.int (nI A)), some (.int (nI T)), some (.int (nI P)), some (.int (nI M)), some (.int (iI sA)), some (.long (lI wi)), none, some (.int (nI od)), some (.int x9), x10] [] (mS t ln sz sc mo be ts us lz pr fa D K Mn Mi Sc rw tp un lf pa) Q := by
  obtain ⟨ra, ra2, ra3, -⟩ := hR A la
  subst ht
  subst hfa
  have hdg := hT.dg (by omega)
  obtain ⟨h1, h2, h3, h4, h5⟩ := hT
  have hcut := cutV_up (V := (R A).2.1) (s := (R A).2.2) (w := 2 * sc) (by omega)
  rw [show (2 * sc - (R A).2.2).toNat = od + 2 * j by omega] at hcut
  have eV : rV (R A).2.1 (R A).2.2 sc = tv rw sz := by unfold rV; rw [hcut.1, h3]
  have eL : rL (R A).2.1 (R A).2.2 sc = decide (tv lf lz ≠ 0) := by
    unfold rL
    rw [eV, hcut.1, hcut.2, Bool.false_or, h5, h3]
    have := (isq_s ((R A).2.1 * 10 ^ (od + 2 * j))).1
    generalize isq ((R A).2.1 * 10 ^ (od + 2 * j)) * isq ((R A).2.1 * 10 ^ (od + 2 * j)) = Y at this ⊢
    generalize (R A).2.1 * 10 ^ (od + 2 * j) = X at this ⊢
    by_cases e : Y = X
    · rw [e]; simp
    · rw [decide_eq_true e, decide_eq_true (by omega)]
  have hne : tv rw sz ≠ 0 := by
    intro q
    have := h2.resolve_left (by omega)
    rw [q] at this
    have := pow10_pos (sz - 1)
    omega
  have hb2 : decide (tv lf lz ≠ 0) = false ∨ P + 1 ≤ dg (tv rw sz) := by
    rcases hend with e | e
    · exact Or.inl (by simp [e])
    · refine Or.inr ?_
      rw [h3, hdg]
      omega
  rw [root_same (t := sc) hp (by rw [eV]; exact Or.inl hne) (by rw [eV, eL]; exact hb2), eV, eL, fit_M (by omega) (Or.inl hne) hb2, ← hsA, ← hwi] at hq
  refine zm_go (okm_Mo_root hG hl) [418] 200 ?_
  conv => whnf
  refine ⟨false, rfl, ?_⟩
  conv => whnf
  refine ⟨?_, trivial⟩
  try dsimp only
  refine w_rt418 hG hl hlz h4 ?_ lz 0 (by omega)
  refine zm_go (okm_Mo_root hG hl) [] 200 ?_
  conv => whnf
  refine ⟨false, rfl, ?_⟩
  conv => whnf
  refine k_toPrecision hG hl hR hM lt lm hp hp2 (by omega) h1 (by omega) (by omega) (Or.inl hne) hb2 ?_
  refine hq.imp (fun m hm => ?_)
  conv => whnf
  exact ⟨hm, trivial⟩
set_option maxRecDepth 4000 in
/-- more figures -/
theorem w_rt330 (hG : zd_G B) (hl : l.stackTraces = false) {R : Nat → zr} (hR : ROk R) (hM : MR R K Mn Mi Sc) {A T M P od : Nat} {sA wi : Int} (la : A < 10) (lt : T < 10) (lm : M < 8) (hp : 1 ≤ P) (hp2 : P ≤ 1000) (hA : (R A).2.1 ≠ 0) (ht : t = 0) (hfa : fa = 2) (hsA : sA = (R A).2.2) (hwi : wi = sA / 2) (hod : (od : Int) = sA % 2)
    (hq : Res Q R T 0 ln pr 2 D pa K Mn Mi Sc false (sp_root (R A) P M)) {h : Nat} (hh1 : 1 ≤ h) (hh2 : h ≤ 600) :
    ∀ (d j : Nat) (g f : Nat → Nat) (us lz : Nat) (un : Nat → Nat) (x10 : Option Value), d = P + 1 - (h + j) → h + j ≤ 1601 → lz ≤ h + j + 3 → RT g (h + j) ((R A).2.1 * 10 ^ (od + 2 * j)) f lz → zm_W l B gM m_Mo_root 330 [some (.ref 53), some (.int (nI A)), some (.int (nI T)), some (.int (nI P)), some (.int (nI M)), some (.int (iI sA)), some (.long (lI wi)), none, some (.int (nI od)), some (.int 1), x10] [] (mS t ln (h + j) ((sA + od) / 2 + j) mo be ts us lz pr fa D K Mn Mi Sc (g) tp un (f) pa) Q := by
  obtain ⟨ra, ra2, ra3, -⟩ := hR A la
  intro d
  induction d with
  | zero =>
    intro j g f us lz un x10 hd hb hlz hT
    refine zm_go (okm_Mo_root hG hl) [410] 200 ?_
    conv => whnf
    refine ⟨fun z => absurd z (by decide), fun _ => ?_⟩
    conv => whnf
    refine ⟨fun _ => ?_, fun z => absurd (nI_lt (by omega) (by omega)) z⟩
    refine ⟨?_, trivial⟩
    try dsimp only
    exact w_rt410 hG hl hR hM la lt lm hp hp2 hA ht hfa hsA hwi hod hq (by omega) rfl (by omega) (by omega) (by omega) hT (Or.inr (by omega))
  | succ d ih =>
    intro j g f us lz un x10 hd hb hlz hT
    refine zm_go (okm_Mo_root hG hl) [349, 410] 200 ?_
    conv => whnf
    refine ⟨fun z => absurd z (by decide), fun _ => ?_⟩
    conv => whnf
    refine ⟨fun z => absurd z (nI_nlt (by omega) (by omega)), fun _ => ?_⟩
    conv => whnf
    refine ⟨?_, trivial⟩
    try dsimp only
    refine w_rt349 hG hl (by omega) hT.2.2.2.1 ?_ lz 0 (by omega)
    by_cases hz : tv f lz = 0
    · rw [show decide (tv f lz ≠ 0) = false by simp [hz]]
      refine zm_go (okm_Mo_root hG hl) [410] 200 ?_
      conv => whnf
      refine ⟨fun _ => ?_, fun z => absurd rfl z⟩
      conv => whnf
      refine ⟨fun _ => ?_, fun z => absurd rfl z⟩
      refine ⟨?_, trivial⟩
      try dsimp only
      exact w_rt410 hG hl hR hM la lt lm hp hp2 hA ht hfa hsA hwi hod hq (by omega) rfl (by omega) (by omega) (by omega) hT (Or.inl hz)
    · rw [show decide (tv f lz ≠ 0) = true by simp [hz]]
      refine zm_go (okm_Mo_root hG hl) [330] 200 ?_
      conv => whnf
      refine ⟨fun z => absurd z (by decide), fun _ => ?_⟩
      conv => whnf
      rw [show (0 : Int32) = nI 0 from rfl]
      refine k_nextRoot (N := (R A).2.1 * 10 ^ (od + 2 * j)) (one := 0) (two := 0) hG hl (by decide) (by decide) (by omega) (by omega) hT.1 hT.2.2.2.1 hT.2.1 hT.2.2.1 hT.2.2.2.2 (fun e us' u' f' lz' c0 c1 c2 c3 c4 => ?_)
      have eN : (R A).2.1 * 10 ^ (od + 2 * j) * 100 + (0 * 10 + 0) = (R A).2.1 * 10 ^ (od + 2 * (j + 1)) := by
        rw [show od + 2 * (j + 1) = od + 2 * j + 2 by omega, Nat.pow_add (10) (od + 2 * j) 2, ← Nat.mul_assoc, show (10 : Nat) ^ 2 = 100 from rfl]
        omega
      rw [eN] at c1 c4
      conv => whnf
      refine ⟨?_, trivial⟩
      try dsimp only
      rw [show lI ((sA + od) / 2 + j) + 1 = lI ((sA + od) / 2 + ((j + 1 : Nat) : Int)) by show _ + lI 1 = _; rw [lI_add]; congr 1; omega]
      refine ih (j + 1) _ f' us' lz' u' _ (by omega) (by omega) (by omega) ⟨zu_lt hT.1 c0, Or.inr ?_, ?_, c3, c4⟩
      · show 10 ^ (h + j + 1 - 1) ≤ tv _ (h + j + 1)
        rw [tv_ext, Nat.add_sub_cancel]
        have := hT.2.1.resolve_left (by omega)
        have e2 : (10 : Nat) ^ (h + j) = 10 ^ (h + j - 1) * 10 := by rw [← Nat.pow_succ]; congr 1; omega
        omega
      · show tv _ (h + j + 1) = _
        rw [tv_ext, hT.2.2.1, c1]
set_option maxRecDepth 4000 in
/-- two figures of the radicand after the other -/
theorem w_rt268 (hG : zd_G B) (hl : l.stackTraces = false) {R : Nat → zr} (hR : ROk R) (hM : MR R K Mn Mi Sc) {A T M P od : Nat} {sA wi : Int} (la : A < 10) (lt : T < 10) (lm : M < 8) (hp : 1 ≤ P) (hp2 : P ≤ 1000) (hA : (R A).2.1 ≠ 0) (ht : t = 0) (hfa : fa = 2) (hsA : sA = (R A).2.2) (hwi : wi = sA / 2) (hod : (od : Int) = sA % 2)
    (hq : Res Q R T 0 ln pr 2 D pa K Mn Mi Sc false (sp_root (R A) P M)) {h : Nat} (hh1 : 1 ≤ h) (hh2 : h ≤ 600) (hts : ts = 2 * h) (htd : ∀ i, i < 2 * h → tp i < 10) (htv : tv tp (2 * h) = (R A).2.1 * 10 ^ od) (hfst : 1 ≤ tv tp 2) :
    ∀ (d i : Nat) (g f : Nat → Nat) (us lz : Nat) (un : Nat → Nat), i + d = h → lz ≤ i + 3 → RT g i (tv tp (2 * i)) f lz → zm_W l B gM m_Mo_root 268 [some (.ref 53), some (.int (nI A)), some (.int (nI T)), some (.int (nI P)), some (.int (nI M)), some (.int (iI sA)), some (.long (lI wi)), none, some (.int (nI od)), some (.int (nI (2 * i))), none] [] (mS t ln (i) sc mo be ts us lz pr fa D K Mn Mi Sc (g) tp un (f) pa) Q := by
  obtain ⟨ra, ra2, ra3, -⟩ := hR A la
  have hodd : od = 0 ∨ od = 1 := by omega
  intro d
  induction d with
  | zero =>
    intro i g f us lz un hi hlz hT
    have e : i = h := by omega
    subst e
    rw [htv] at hT
    have w := w_rt330 (mo := mo) (be := be) (ts := ts) (tp := tp) hG hl hR hM la lt lm hp hp2 hA ht hfa hsA hwi hod hq hh1 hh2 (P + 1 - i) 0 g f us lz un none (by omega) (by omega) (by omega) (by rw [Nat.mul_zero, Nat.add_zero, Nat.add_zero]; exact hT)
    rw [Nat.add_zero, show (sA + od) / 2 + ((0 : Nat) : Int) = (sA + od) / 2 by omega] at w
    refine zm_go (okm_Mo_root hG hl) [330] 200 ?_
    conv => whnf
    refine ⟨fun _ => ?_, fun z => absurd ((nI_ge0 (by omega) (by omega)).mpr (by omega)) z⟩
    conv => whnf
    rcases hodd with e | e
    · subst e
      refine ⟨fun _ => ?_, fun z => absurd rfl z⟩
      conv => whnf
      refine ⟨by decide, ?_⟩
      conv => whnf
      refine ⟨?_, trivial⟩
      try dsimp only
      rw [show (2 : Int32) = iI 2 from rfl, iI_tdiv ⟨by omega, by omega⟩ ⟨by decide, by decide⟩ (by decide), tdiv2 (by omega), iI_l ⟨by omega, by omega⟩]
      rw [show sA + ((0 : Nat) : Int) = sA by omega] at w
      exact w
    · subst e
      refine ⟨fun z => absurd z (by decide), fun _ => ?_⟩
      conv => whnf
      refine ⟨by decide, ?_⟩
      conv => whnf
      refine ⟨?_, trivial⟩
      try dsimp only
      rw [show (1 : Int32) = iI 1 from rfl, show (2 : Int32) = iI 2 from rfl, iI_add, iI_tdiv ⟨by omega, by omega⟩ ⟨by decide, by decide⟩ (by decide), tdiv2 (by omega), iI_l ⟨by omega, by omega⟩]
      exact w
  | succ d ih =>
    intro i g f us lz un hi hlz hT
    refine zm_go (okm_Mo_root hG hl) [268] 200 ?_
    conv => whnf
    refine ⟨fun z => absurd ((nI_ge0 (by omega) (by omega)).mp z) (by omega), fun _ => ?_⟩
    conv => whnf
    refine ⟨(2 * i), rfl, by omega, ?_⟩
    conv => whnf
    refine ⟨(2 * i + 1), nI_1 _, by omega, ?_⟩
    conv => whnf
    dsimp only
    refine k_nextRoot (N := tv tp (2 * i)) (one := tp (2 * i)) (two := tp (2 * i + 1)) hG hl (htd _ (by omega)) (htd _ (by omega)) (by omega) (by omega) hT.1 hT.2.2.2.1 hT.2.1 hT.2.2.1 hT.2.2.2.2 (fun e us' u' f' lz' c0 c1 c2 c3 c4 => ?_)
    have eN : tv tp (2 * i) * 100 + (tp (2 * i) * 10 + tp (2 * i + 1)) = tv tp (2 * (i + 1)) := by
      show _ = (tv tp (2 * i) * 10 + tp (2 * i)) * 10 + tp (2 * i + 1)
      omega
    rw [eN] at c1 c4
    conv => whnf
    refine ⟨?_, trivial⟩
    try dsimp only
    rw [show nI (2 * i) + 2 = nI (2 * (i + 1)) from nI_add _ 2]
    refine ih (i + 1) _ f' us' lz' u' (by omega) (by omega) ⟨zu_lt hT.1 c0, Or.inr ?_, ?_, c3, c4⟩
    · rw [Nat.add_sub_cancel, tv_ext, hT.2.2.1, ← c1]
      refine isq_ge ?_
      have e1 := tv_split2 (g := tp) (m := 2) (n := 2 * (i + 1)) (by omega)
      have e2 : 10 ^ i * 10 ^ i = 10 ^ (2 * (i + 1) - 2) := by rw [← Nat.pow_add]; congr 1; omega
      have e3 : 1 * 10 ^ (2 * (i + 1) - 2) ≤ tv tp 2 * 10 ^ (2 * (i + 1) - 2) := Nat.mul_le_mul_right _ hfst
      rw [e1, e2]
      omega
    · rw [tv_ext, hT.2.2.1, c1]
/-- the radicand's figures -/
theorem w_rt181 (hG : zd_G B) (hl : l.stackTraces = false) {R : Nat → zr} (hR : ROk R) (hM : MR R K Mn Mi Sc) {A T M P od : Nat} {sA wi : Int} {pd : Nat} (la : A < 10) (hpd : pd ≤ 1)
    (hq : ∀ q, (∀ i, i < pd → q i = tp i) → (∀ i, i < dg (R A).2.1 → q (pd + i) = td (R A).2.1 (dg (R A).2.1) i) → zm_W l B gM m_Mo_root 230 [some (.ref 53), some (.int (nI A)), some (.int (nI T)), some (.int (nI P)), some (.int (nI M)), some (.int (iI sA)), some (.long (lI wi)), none, some (.int (nI od)), some (.int (nI (dg (R A).2.1))), none] [] (mS t ln sz sc mo be (pd + dg (R A).2.1) us lz pr fa D K Mn Mi Sc rw (q) un lf pa) Q) :
    ∀ (d k : Nat) (q : Nat → Nat), k + d = dg (R A).2.1 → (∀ i, i < pd → q i = tp i) → (∀ i, i < k → q (pd + i) = td (R A).2.1 (dg (R A).2.1) i) → zm_W l B gM m_Mo_root 181 [some (.ref 53), some (.int (nI A)), some (.int (nI T)), some (.int (nI P)), some (.int (nI M)), some (.int (iI sA)), some (.long (lI wi)), none, some (.int (nI od)), some (.int (nI k)), none] [] (mS t ln sz sc mo be (pd + k) us lz pr fa D K Mn Mi Sc rw (q) un lf pa) Q := by
  obtain ⟨ma, ka, na, sa⟩ := hM.2 A la
  have ra := (hR A la).1
  intro d
  induction d with
  | zero =>
    intro k q hk h1 h2
    have e : k = dg (R A).2.1 := by omega
    subst e
    refine zm_go (okm_Mo_root hG hl) [230] 200 ?_
    conv => whnf
    refine ⟨A, rfl, by omega, ?_⟩
    conv => whnf
    dsimp only
    rw [ma]
    refine ⟨fun _ => ?_, fun z => absurd (Int32.le_refl _) z⟩
    refine ⟨?_, trivial⟩
    try dsimp only
    exact hq q h1 h2
  | succ d ih =>
    intro k q hk h1 h2
    refine zm_go (okm_Mo_root hG hl) [181] 200 ?_
    conv => whnf
    refine ⟨A, rfl, by omega, ?_⟩
    conv => whnf
    dsimp only
    rw [ma]
    refine ⟨fun z => absurd ((nI_ge0 (by omega) (by omega)).mp z) (by omega), fun _ => ?_⟩
    conv => whnf
    refine ⟨(1000 * A + k), by rw [← nI_add, ← lmul]; rfl, by omega, ?_⟩
    conv => whnf
    refine ⟨(pd + k), rfl, by omega, ?_⟩
    conv => whnf
    refine ⟨?_, trivial⟩
    try dsimp only
    rw [ka k (by omega), nI_1, nI_1]
    rw [upd_nI]
    refine ih (k + 1) _ (by omega) (fun i hi => ?_) (fun i hi => ?_)
    · rw [zu_n (by omega)]; exact h1 i hi
    · by_cases e : i = k
      · rw [e, zu_s]
      · rw [zu_n (by omega)]; exact h2 i (by omega)
set_option maxRecDepth 4000 in
theorem w_rt178 (hG : zd_G B) (hl : l.stackTraces = false) {R : Nat → zr} (hR : ROk R) (hM : MR R K Mn Mi Sc) {A T M P od : Nat} {sA wi : Int} (la : A < 10) (lt : T < 10) (lm : M < 8) (hp : 1 ≤ P) (hp2 : P ≤ 1000) (hA : (R A).2.1 ≠ 0) (ht : t = 0) (hfa : fa = 2) (hsA : sA = (R A).2.2) (hwi : wi = sA / 2) (hod : (od : Int) = sA % 2)
    (hq : Res Q R T 0 ln pr 2 D pa K Mn Mi Sc false (sp_root (R A) P M)) {pd : Nat} (hpd : pd = (dg (R A).2.1 + od) % 2) (hts : ts = pd) (htp : pd = 1 → tp 0 = 0) (hd : ∀ i, rw i < 10) : zm_W l B gM m_Mo_root 178 [some (.ref 53), some (.int (nI A)), some (.int (nI T)), some (.int (nI P)), some (.int (nI M)), some (.int (iI sA)), some (.long (lI wi)), none, some (.int (nI od)), none, none] [] (mS t ln sz sc mo be ts us lz pr fa D K Mn Mi Sc rw tp un lf pa) Q := by
  obtain ⟨ra, ra2, ra3, -⟩ := hR A la
  have pa1 := dg_pos (R A).2.1
  have hodd : od = 0 ∨ od = 1 := by omega
  have hpd1 : pd ≤ 1 := by omega
  have hb := hR A la
  refine zm_go (okm_Mo_root hG hl) [181] 200 ?_
  conv => whnf
  refine ⟨?_, trivial⟩
  try dsimp only
  rw [hts, show nI pd = nI (pd + 0) from rfl]
  refine w_rt181 (pd := pd) hG hl hR hM la hpd1 (fun q b1 b2 => ?_) (dg (R A).2.1) 0 tp (by omega) (fun i _ => rfl) (fun i hi => by omega)
  have topd : 1 ≤ td (R A).2.1 (dg (R A).2.1) 0 := by
    have := td_dg0 hA
    omega
  have vpre : tv q (pd + dg (R A).2.1) = (R A).2.1 := by
    have e1 : tv q pd = 0 := by
      rcases Nat.eq_zero_or_pos pd with e | e
      · rw [e]; rfl
      · have e2 : pd = 1 := by omega
        rw [e2]
        show 0 * 10 + q 0 = 0
        rw [b1 0 (by omega), htp e2]
    rw [tv_split, e1, Nat.zero_mul, Nat.zero_add, tv_congr b2, tv_td (dg_lt _)]
  have fst : ∀ q' : Nat → Nat, (∀ i, i < pd + dg (R A).2.1 → q' i = q i) → 1 ≤ tv q' 2 := by
    intro q' hq'
    show 1 ≤ (0 * 10 + q' 0) * 10 + q' 1
    rcases Nat.eq_zero_or_pos pd with e | e
    · have := b2 0 (by omega)
      rw [e] at this
      rw [hq' 0 (by omega)]
      have : q 0 = td (R A).2.1 (dg (R A).2.1) 0 := this
      omega
    · have e2 : pd = 1 := by omega
      have := b2 0 (by omega)
      rw [e2] at this
      rw [hq' 1 (by omega)]
      have : q 1 = td (R A).2.1 (dg (R A).2.1) 0 := this
      omega
  have dq : ∀ i, i < pd + dg (R A).2.1 → q i < 10 := by
    intro i hi
    by_cases e : i < pd
    · have : i = 0 := by omega
      rw [this, b1 0 (by omega), htp (by omega)]; decide
    · have := b2 (i - pd) (by omega)
      rw [show pd + (i - pd) = i by omega] at this
      rw [this]; exact td_lt _ _ _
  have go : ∀ q' : Nat → Nat, (∀ i, i < pd + dg (R A).2.1 → q' i = q i) → (od = 1 → q' (pd + dg (R A).2.1) = 0) → zm_W l B gM m_Mo_root 255 [some (.ref 53), some (.int (nI A)), some (.int (nI T)), some (.int (nI P)), some (.int (nI M)), some (.int (iI sA)), some (.long (lI wi)), none, some (.int (nI od)), some (.int (nI (dg (R A).2.1))), none] [] (mS t ln sz sc mo be (pd + dg (R A).2.1 + od) us lz pr fa D K Mn Mi Sc rw (q') un lf pa) Q := by
    intro q' c1 c2
    have hh : pd + dg (R A).2.1 + od = 2 * ((pd + dg (R A).2.1 + od) / 2) := by omega
    have vq : tv q' (2 * ((pd + dg (R A).2.1 + od) / 2)) = (R A).2.1 * 10 ^ od := by
      rw [← hh]
      rcases hodd with e | e
      · rw [e, Nat.pow_zero, Nat.mul_one]
        exact (tv_congr c1).trans vpre
      · rw [e, Nat.pow_one]
        show tv q' (pd + dg (R A).2.1) * 10 + q' (pd + dg (R A).2.1) = _
        rw [c2 e, tv_congr c1, vpre, Nat.add_zero]
    have dq' : ∀ i, i < 2 * ((pd + dg (R A).2.1 + od) / 2) → q' i < 10 := by
      intro i hi
      by_cases e : i < pd + dg (R A).2.1
      · rw [c1 i e]; exact dq i e
      · have : i = pd + dg (R A).2.1 := by omega
        rw [this, c2 (by omega)]; decide
    refine zm_go (okm_Mo_root hG hl) [268] 200 ?_
    conv => whnf
    refine ⟨?_, trivial⟩
    try dsimp only
    exact w_rt268 (tp := q') (h := (pd + dg (R A).2.1 + od) / 2) hG hl hR hM la lt lm hp hp2 hA ht hfa hsA hwi hod hq (by omega) (by omega) hh dq' vq (fst q' c1) ((pd + dg (R A).2.1 + od) / 2) 0 rw lf us 0 un (by omega) (by omega) ⟨hd, Or.inl rfl, rfl, fun j hj => by omega, rfl⟩
  refine zm_go (okm_Mo_root hG hl) [255] 200 ?_
  conv => whnf
  rcases hodd with e | e
  · subst e
    refine ⟨fun _ => ?_, fun z => absurd rfl z⟩
    refine ⟨?_, trivial⟩
    try dsimp only
    exact go q (fun i _ => rfl) (fun h => absurd h (by decide))
  · subst e
    refine ⟨fun z => absurd z (by decide), fun _ => ?_⟩
    conv => whnf
    refine ⟨(pd + dg (R A).2.1), rfl, by omega, ?_⟩
    conv => whnf
    refine ⟨?_, trivial⟩
    try dsimp only
    rw [nI_1, show (0 : Int32) = nI 0 from rfl]
    rw [upd_nI]
    exact go _ (fun i hi => zu_n (by omega)) (fun _ => zu_s)
set_option maxRecDepth 4000 in
theorem k_root (hG : zd_G B) (hl : l.stackTraces = false) {R : Nat → zr} (hR : ROk R) (hM : MR R K Mn Mi Sc) {a to p md : Int} (ha : iR a) (hto : iR to) (hp : iR p) (hmd : iR md) (hd : ∀ i, rw i < 10)
    (hb : ((a < 0 ∨ 10 ≤ a) ∨ (to < 0 ∨ 10 ≤ to) ∨ (md < 0 ∨ 8 ≤ md) ∨ p < 1 ∨ 1000 < p) → Q none (mS (1) ln sz sc mo be ts us lz pr fa D K Mn Mi Sc rw tp un lf pa))
    (hz : ¬ ((a < 0 ∨ 10 ≤ a) ∨ (to < 0 ∨ 10 ≤ to) ∨ (md < 0 ∨ 8 ≤ md) ∨ p < 1 ∨ 1000 < p) → ∀ A : Nat, a = A → (R A).1 = true → Q none (mS (2) ln sz sc mo be ts us lz pr fa D K Mn Mi Sc rw tp un lf pa))
    (hq : ∀ A T P M : Nat, a = A → to = T → p = P → md = M → A < 10 → T < 10 → 1 ≤ P → P ≤ 1000 → M < 8 → (R A).1 = false → Res Q R T 0 ln pr 2 D pa K Mn Mi Sc false (sp_root (R A) P M)) : zm_M l B gM m_Mo_root [.ref 53, .int (iI a), .int (iI to), .int (iI p), .int (iI md)] (mS t ln sz sc mo be ts us lz pr fa D K Mn Mi Sc rw tp un lf pa) Q := by
  have bad : ((a < 0 ∨ 10 ≤ a) ∨ (to < 0 ∨ 10 ≤ to) ∨ (md < 0 ∨ 8 ≤ md) ∨ p < 1 ∨ 1000 < p) → zm_W l B gM m_Mo_root 35 [some (.ref 53), some (.int (iI a)), some (.int (iI to)), some (.int (iI p)), some (.int (iI md)), none, none, none, none, none, none] [.ref 53] (mS t ln sz sc mo be ts us lz pr fa D K Mn Mi Sc rw tp un lf pa) Q := by
    intro hc
    refine zm_go (okm_Mo_root hG hl) [] 200 ?_
    conv => whnf
    refine ⟨fun z => absurd z (by decide), fun _ => ?_⟩
    conv => whnf
    exact ⟨hb hc, trivial⟩
  refine zm_go (okm_Mo_root hG hl) [35, 98] 200 ?_
  conv => whnf
  refine k_no hG hl ha ?_
  by_cases ca : a < 0 ∨ 10 ≤ a
  · rw [decide_eq_true ca]
    conv => whnf
    refine ⟨fun _ => ?_, fun z => absurd z (by decide)⟩
    refine ⟨?_, trivial⟩
    try dsimp only
    exact bad (Or.inl ca)
  · rw [decide_eq_false ca]
    conv => whnf
    refine ⟨fun z => absurd rfl z, fun _ => ?_⟩
    conv => whnf
    refine k_no hG hl hto ?_
    by_cases cto : to < 0 ∨ 10 ≤ to
    · rw [decide_eq_true cto]
      conv => whnf
      refine ⟨fun _ => ?_, fun z => absurd z (by decide)⟩
      refine ⟨?_, trivial⟩
      try dsimp only
      exact bad (Or.inr (Or.inl cto))
    · rw [decide_eq_false cto]
      conv => whnf
      refine ⟨fun z => absurd rfl z, fun _ => ?_⟩
      conv => whnf
      refine k_noMode hG hl hmd ?_
      by_cases cmd : md < 0 ∨ 8 ≤ md
      · rw [decide_eq_true cmd]
        conv => whnf
        refine ⟨fun _ => ?_, fun z => absurd z (by decide)⟩
        refine ⟨?_, trivial⟩
        try dsimp only
        exact bad (Or.inr (Or.inr (Or.inl cmd)))
      · rw [decide_eq_false cmd]
        conv => whnf
        refine ⟨fun z => absurd rfl z, fun _ => ?_⟩
        conv => whnf
        by_cases c1 : p < 1
        · refine ⟨fun _ => ?_, fun z => absurd ((iI_lt (b := 1) hp ⟨by decide, by decide⟩).mpr c1) z⟩
          refine ⟨?_, trivial⟩
          try dsimp only
          exact bad (Or.inr (Or.inr (Or.inr (Or.inl c1))))
        · refine ⟨fun z => absurd ((iI_lt (b := 1) hp ⟨by decide, by decide⟩).mp z) c1, fun _ => ?_⟩
          conv => whnf
          by_cases c2 : 1000 < p
          · refine ⟨fun z => absurd ((iI_le (b := 1000) hp ⟨by decide, by decide⟩).mp z) (by omega), fun _ => ?_⟩
            refine ⟨?_, trivial⟩
            try dsimp only
            exact bad (Or.inr (Or.inr (Or.inr (Or.inr c2))))
          · refine ⟨fun _ => ?_, fun z => absurd ((iI_le (b := 1000) hp ⟨by decide, by decide⟩).mpr (by omega)) z⟩
            conv => whnf
            obtain ⟨A, ea, la⟩ := iI_of_nat ca
            obtain ⟨T, et, lt⟩ := iI_of_nat cto
            obtain ⟨M, em, lm⟩ := iI_of_nat8 cmd
            obtain ⟨P, ep⟩ : ∃ P : Nat, p = P := ⟨p.toNat, by omega⟩
            have hzz := hz (by omega) A ea
            have hqq := hq A T P M ea et ep em la lt (by omega) (by omega) lm
            subst ea
            subst et
            subst em
            subst ep
            rw [← iI_nI, ← iI_nI, ← iI_nI, ← iI_nI]
            obtain ⟨ma, ka, na, sa⟩ := hM.2 A la
            obtain ⟨ra, ra2, ra3, ra4⟩ := hR A la
            refine ⟨A, rfl, by omega, ?_⟩
            conv => whnf
            dsimp only
            rw [na]
            cases hneg : (R A).1
            · refine ⟨fun _ => ?_, fun z => absurd rfl z⟩
              conv => whnf
              refine ⟨fun _ => ?_, fun z => absurd (by decide) z⟩
              conv => whnf
              refine ⟨A, rfl, by omega, ?_⟩
              conv => whnf
              dsimp only
              rw [sa]
              have hqq := hqq hneg
              have w : zm_W l B gM m_Mo_root 98 [some (.ref 53), some (.int (nI A)), some (.int (nI T)), some (.int (nI P)), some (.int (nI M)), some (.int (iI (R A).2.2)), none, none, none, none, none] [.long (lI ((R A).2.2 / 2))] (mS (0) ln sz sc mo be ts us lz pr (2) D K Mn Mi Sc rw tp un lf pa) Q := by
                refine zm_go (okm_Mo_root hG hl) [143] 200 ?_
                conv => whnf
                refine k_isZero hG hl hM la ?_
                conv => whnf
                by_cases ez : (R A).2.1 = 0
                · rw [decide_eq_true ez]
                  refine ⟨fun z => absurd z (by decide), fun _ => ?_⟩
                  conv => whnf
                  refine k_load hG hl hR hM la hd (fun g b1 b2 => ?_)
                  conv => whnf
                  refine k_toPrecision hG hl hR hM lt lm (by omega) (by omega) (by omega) b1 (by omega) (by omega) (Or.inr rfl) (Or.inl rfl) ?_
                  rw [b2, hneg]
                  have e9 := root_zero (s := (R A).2.2) (t := ((2 * P - dg (R A).2.1 + (R A).2.2) / 2 + 1))
                  unfold sp_root at hqq
                  rw [ez] at hqq ⊢
                  rw [ez] at e9
                  rw [e9.1, e9.2] at hqq
                  have e10 : fitM P ((R A).2.2 / 2) M false 0 (R A).2.2 false = some (0, (R A).2.2 / 2) := if_pos ⟨rfl, rfl⟩
                  have e11 : fit P ((R A).2.2 / 2) M false 0 ((2 * (P : Int) - dg 0 + (R A).2.2) / 2 + 1) false = some (0, (R A).2.2 / 2) := if_pos ⟨rfl, rfl⟩
                  rw [e11] at hqq
                  rw [e10]
                  refine hqq.imp (fun m hm => ?_)
                  conv => whnf
                  exact ⟨hm, trivial⟩
                · rw [decide_eq_false ez]
                  refine ⟨fun _ => ?_, fun z => absurd rfl z⟩
                  conv => whnf
                  have nx : ∀ od : Nat, (od : Int) = (R A).2.2 % 2 → zm_W l B gM m_Mo_root 143 [some (.ref 53), some (.int (nI A)), some (.int (nI T)), some (.int (nI P)), some (.int (nI M)), some (.int (iI (R A).2.2)), some (.long (lI ((R A).2.2 / 2))), none, some (.int (nI od)), none, none] [] (mS (0) ln sz sc mo be (0) us lz pr (2) D K Mn Mi Sc rw tp un lf pa) Q := by
                    intro od hod
                    have hodd : od = 0 ∨ od = 1 := by omega
                    have f178 : ∀ (pd : Nat) (tq : Nat → Nat), pd = (dg (R A).2.1 + od) % 2 → (pd = 1 → tq 0 = 0) → zm_W l B gM m_Mo_root 178 [some (.ref 53), some (.int (nI A)), some (.int (nI T)), some (.int (nI P)), some (.int (nI M)), some (.int (iI (R A).2.2)), some (.long (lI ((R A).2.2 / 2))), none, some (.int (nI od)), none, none] [] (mS (0) ln sz sc mo be (pd) us lz pr (2) D K Mn Mi Sc rw (tq) un lf pa) Q := fun pd tq q1 q2 => w_rt178 hG hl hR hM la lt lm (by omega) (by omega) ez rfl rfl rfl rfl hod hqq q1 rfl q2 hd
                    have f159 : zm_W l B gM m_Mo_root 159 [some (.ref 53), some (.int (nI A)), some (.int (nI T)), some (.int (nI P)), some (.int (nI M)), some (.int (iI (R A).2.2)), some (.long (lI ((R A).2.2 / 2))), none, some (.int (nI od)), none, none] [.int (nI od), .int (nI (dg (R A).2.1))] (mS (0) ln sz sc mo be (0) us lz pr (2) D K Mn Mi Sc rw tp un lf pa) Q := by
                      refine zm_go (okm_Mo_root hG hl) [178] 200 ?_
                      conv => whnf
                      rw [nI_add]
                      refine ⟨by decide, ?_⟩
                      conv => whnf
                      rw [show (2 : Int32) = nI 2 from rfl, nI_rm (by omega) (by decide) (by decide)]
                      by_cases q : (dg (R A).2.1 + od) % 2 = 1
                      · refine ⟨fun z => absurd ((nI_eq (b := 1) (by omega) (by decide)).mpr q) z, fun _ => ?_⟩
                        conv => whnf
                        refine ⟨0, rfl, by omega, ?_⟩
                        conv => whnf
                        refine ⟨?_, trivial⟩
                        try dsimp only
                        rw [show (0 : Int32) = nI 0 from rfl]
                        rw [upd_nI]
                        exact f178 1 _ q.symm (fun _ => zu_s)
                      · refine ⟨fun _ => ?_, fun z => absurd ((nI_eq (b := 1) (by omega) (by decide)).mp z) q⟩
                        refine ⟨?_, trivial⟩
                        try dsimp only
                        exact f178 0 tp (by omega) (fun h => absurd h (by decide))
                    refine zm_go (okm_Mo_root hG hl) [159] 200 ?_
                    conv => whnf
                    refine ⟨A, rfl, by omega, ?_⟩
                    conv => whnf
                    dsimp only
                    rw [ma]
                    rcases hodd with e | e
                    · subst e
                      refine ⟨fun _ => ?_, fun z => absurd rfl z⟩
                      conv => whnf
                      refine ⟨?_, trivial⟩
                      try dsimp only
                      exact f159
                    · subst e
                      refine ⟨fun z => absurd z (by decide), fun _ => ?_⟩
                      conv => whnf
                      refine ⟨?_, trivial⟩
                      try dsimp only
                      exact f159
                  refine ⟨by decide, ?_⟩
                  conv => whnf
                  rw [show (2 : Int32) = iI 2 from rfl, iI_tmod ⟨by omega, by omega⟩ ⟨by decide, by decide⟩ (by decide)]
                  have rt : iR ((R A).2.2.tmod 2) := by have := Int.tmod_lt_of_pos (R A).2.2 (b := 2) (by decide); have := Int.lt_tmod_of_pos (R A).2.2 (b := 2) (by decide); exact ⟨by omega, by omega⟩
                  by_cases hev : (R A).2.2 % 2 = 0
                  · refine ⟨fun _ => ?_, fun z => absurd (by rw [(tmod2 _).mpr hev]; rfl) z⟩
                    conv => whnf
                    refine ⟨?_, trivial⟩
                    try dsimp only
                    exact nx 0 (by omega)
                  · refine ⟨fun z => absurd ((tmod2 _).mp ((iI_eq (b := 0) rt ⟨by decide, by decide⟩).mp z)) hev, fun _ => ?_⟩
                    conv => whnf
                    refine ⟨?_, trivial⟩
                    try dsimp only
                    exact nx 1 (by omega)
              by_cases hs0 : (R A).2.2 < 0
              · refine ⟨fun _ => ?_, fun z => absurd ((iI_lt (b := 0) ⟨by omega, by omega⟩ ⟨by decide, by decide⟩).mpr hs0) z⟩
                conv => whnf
                refine ⟨by decide, ?_⟩
                conv => whnf
                refine ⟨?_, trivial⟩
                try dsimp only
                rw [show (1 : Int32) - iI (R A).2.2 = iI (1 - (R A).2.2) from iI_sub 1 _, show (2 : Int32) = iI 2 from rfl, iI_div ⟨by omega, by omega⟩ (by omega) ⟨by decide, by decide⟩ (by decide), iI_neg, iI_l ⟨by omega, by omega⟩, show -((1 - (R A).2.2) / 2) = (R A).2.2 / 2 by omega]
                exact w
              · refine ⟨fun z => absurd ((iI_lt (b := 0) ⟨by omega, by omega⟩ ⟨by decide, by decide⟩).mp z) hs0, fun _ => ?_⟩
                conv => whnf
                refine ⟨by decide, ?_⟩
                conv => whnf
                refine ⟨?_, trivial⟩
                try dsimp only
                rw [show (2 : Int32) = iI 2 from rfl, iI_div ⟨by omega, by omega⟩ (by omega) ⟨by decide, by decide⟩ (by decide), iI_l ⟨by omega, by omega⟩]
                exact w
            · refine ⟨fun z => absurd z (by decide), fun _ => ?_⟩
              conv => whnf
              refine ⟨fun z => absurd z (by decide), fun _ => ?_⟩
              conv => whnf
              exact ⟨hzz hneg, trivial⟩
end KU

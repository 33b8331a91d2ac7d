/-! the class: write, wipe, read, character -/
def srd (R : Nat → zr) (D : Nat → Nat) (ln : Nat) (to : Int) : Nat × (Nat → zr) × Nat :=
  if to < 0 ∨ 10 ≤ to then (1, R, ln) else match sp_says D ln with
  | none => (2, R, ln)
  | some q => match fin (some (q.2.1, q.2.2)) with
    | some p => (0, zpu R to.toNat (q.1 && decide (p.1 ≠ 0), p.1, p.2), 0)
    | none => (3, R, ln)
theorem xs_cS {B : zd_B} {k : Nat} : ∀ q, xs B q → cS B k q := fun q z => Or.inl (by rcases z with z | z <;> omega)
theorem gD_cS {B : zd_B} {k : Nat} : ∀ q, gS B gD q → cS B k q := fun q z => Or.inl ⟨Nat.le_trans (by omega) z.1, Nat.le_trans z.2 (by show zd_b0 B + 32 + 1 ≤ _; omega)⟩
theorem gD_no {B : zd_B} {j : Nat} (hj : j < 32 ∨ 33 < j) : ¬ gS B gD (zd_b0 B + j) := fun z => by
  have h1 : zd_b0 B + 32 ≤ zd_b0 B + j := z.1
  have h2 : zd_b0 B + j ≤ zd_b0 B + 32 + 1 := z.2
  omega
theorem gD_xs {B : zd_B} : ∀ q, gS B gD q → ¬ xs B q := fun q hq z => by
  have q1 : zd_b0 B + 32 ≤ q := hq.1
  have q2 : q ≤ zd_b0 B + 32 + 1 := hq.2
  rcases z with z | z <;> omega
theorem xs_no34 {B : zd_B} : ¬ xs B (zd_b0 B + 34) := fun z => by rcases z with z | z <;> omega
theorem xs_nok {B : zd_B} {k : Nat} (h : k = 35 ∨ 64 < k) : ¬ xs B (zd_b0 B + k) := fun z => by rcases z with z | z <;> omega
theorem Fg.gD_xi {B : zd_B} {h h' : zd_H} {a : zx} (f : Fg B h h' (gS B gD) 0) (x : xi B h a) : xi B h' a := by
  obtain ⟨⟨x1, x2⟩, x3, x4, x5, x6, x7, x8, x9, x10, x11, x12, x13⟩ := x
  have hS : ∀ k, k < 32 ∨ 33 < k → ¬ gS B gD (zd_b0 B + k) := fun k hk => gD_no hk
  exact ⟨⟨f.ob x1 (hS 0 (by decide)), f.ar x2 (hS 1 (by decide))⟩, fun i hi => (x3 i hi).kept f (hS _ (by omega)) (hS _ (by omega)) (hS (2 + 3 * i + 1 + 1) (by omega)), f.ob x4 (hS 46 (by decide)), x5.kept f (hS 47 (by decide)) (hS 48 (by decide)), x6.kept f (hS 49 (by decide)) (hS 50 (by decide)), x7.kept f (hS 51 (by decide)) (hS 52 (by decide)), f.ob x8 (hS 36 (by decide)), x9.kept f (hS 37 (by decide)) (hS 38 (by decide)), f.ob x10 (hS 39 (by decide)), x11.kept f (hS 40 (by decide)) (hS 41 (by decide)), x12.kept f (hS 42 (by decide)) (hS 43 (by decide)), x13.kept f (hS 44 (by decide)) (hS 45 (by decide))⟩
theorem Ke.push {B : zd_B} {h : zd_H} {S : Nat → Prop} {c : zd_C} {n : Nat} : Ke B h (zd_push h (zd_b0 B + h.1) c n) S := ⟨by show h.1 ≤ h.1 + 1; omega, fun a ha _ => if_neg (by omega)⟩
theorem Ke.tr {B : zd_B} {h h1 h2 : zd_H} {S : Nat → Prop} (a : Ke B h h1 S) (b : Ke B h1 h2 S) : Ke B h h2 S := ⟨Nat.le_trans a.1 b.1, fun q hq hn => (b.2 q (by have := a.1; omega) hn).trans (a.2 q hq hn)⟩
section YB
variable {l : Launch} {B : zd_B} {h : zd_H} {Q : zd_O → zd_H → Prop} {R : Nat → zr} {D : Nat → Nat} {ln : Nat} {T : List Nat} {k cap : Nat}
theorem cw_write (hG : zd_G B) (hl : l.stackTraces = false) (w : Cw B h R D ln T k cap) (hc : 34 ≤ h.1) {x : Int64} (hn : ln ≤ 1100)
    (hf : 1100 < ln + nzb x 8 → ∀ h', Cw B h' R D ln T k cap → h'.1 = h.1 → h'.2.1 = h.2.1 → Ke B h h' (cS B k) → Q (.inl (some (.int (-1)))) h')
    (hq : ln + nzb x 8 ≤ 1100 → ∀ h', Cw B h' R (wr x D ln 8).1 (ln + nzb x 8) T k cap → h'.1 = h.1 → h'.2.1 = h.2.1 → Ke B h h' (cS B k) → Q (.inl (some (.int (nI (ln + nzb x 8))))) h') : zd_M l B m_De_write [.ref (zd_b0 B + 0), .long x] h Q := by
  obtain ⟨⟨r, v, o, c, x0⟩, ⟨ng, fd, eo, dn, df, ex, g⟩, t, e⟩ := w
  have hk : k = 35 ∨ 64 < k := by omega
  refine zd_go (ok_De_write hG hl) [] 60 ?_
  conv => whnf
  refine ⟨_, x0.1.1, ?_⟩
  conv => whnf
  refine ⟨⟨_, g.dob⟩, ⟨rfl, Nat.le_of_ble_eq_true rfl, Nat.le_of_ble_eq_true rfl⟩, ?_⟩
  refine cw_dr (as := [.ref 32, .long x]) (Q := fun v m => (v = some (.int (-1)) ∧ 1100 < ln + nzb x 8 ∧ m = dS D ln ng fd eo dn df ex) ∨ (v = some (.int (nI (ln + nzb x 8))) ∧ ln + nzb x 8 ≤ 1100 ∧ m = dS (wr x D ln 8).1 (ln + nzb x 8) ng fd eo dn df ex)) g (d_append hG hl hn (fun q => Or.inl ⟨rfl, q, rfl⟩) (fun q => Or.inr ⟨rfl, q, rfl⟩)) hc (fun v' m' h' q g' f' => ?_)
  have ke : Ke B h h' (cS B k) := f'.ke gD_cS
  have t' := t.kept f' (gD_no (by omega)) (gD_no (by omega))
  rcases q with ⟨q1, q2, q3⟩ | ⟨q1, q2, q3⟩
  · subst q1
    subst q3
    conv => whnf
    refine ⟨rfl, ?_, trivial⟩
    exact hf q2 h' ⟨⟨r, v, o, c, f'.gD_xi x0⟩, ⟨ng, fd, eo, dn, df, ex, g'⟩, t', e⟩ f'.1 f'.2.1 ke
  · subst q1
    subst q3
    conv => whnf
    refine ⟨rfl, ?_, trivial⟩
    exact hq q2 h' ⟨⟨r, v, o, c, f'.gD_xi x0⟩, ⟨ng, fd, eo, dn, df, ex, g'⟩, t', e⟩ f'.1 f'.2.1 ke
theorem cw_wipe (hG : zd_G B) (hl : l.stackTraces = false) (w : Cw B h R D ln T k cap) (hc : 34 ≤ h.1)
    (hq : ∀ h', Cw B h' R D 0 T k cap → h'.1 = h.1 → h'.2.1 = h.2.1 → Ke B h h' (cS B k) → Q (.inl (some (.int (nI ln)))) h') : zd_M l B m_De_wipe [.ref (zd_b0 B + 0)] h Q := by
  obtain ⟨⟨r, v, o, c, x0⟩, ⟨ng, fd, eo, dn, df, ex, g⟩, t, e⟩ := w
  refine zd_go (ok_De_wipe hG hl) [] 60 ?_
  conv => whnf
  refine ⟨_, x0.1.1, ?_⟩
  conv => whnf
  refine ⟨⟨_, g.dob⟩, ⟨rfl, Nat.le_of_ble_eq_true rfl, Nat.le_of_ble_eq_true rfl⟩, ?_⟩
  refine cw_dr (as := [.ref 32]) (Q := fun v m => v = some (.int (nI ln)) ∧ m = dS D 0 ng fd eo dn df ex) g (d_clear hG hl ⟨rfl, rfl⟩) hc (fun v' m' h' q g' f' => ?_)
  obtain ⟨q1, q3⟩ := q
  subst q1
  subst q3
  conv => whnf
  refine ⟨rfl, ?_, trivial⟩
  exact hq h' ⟨⟨r, v, o, c, f'.gD_xi x0⟩, ⟨ng, fd, eo, dn, df, ex, g'⟩, t.kept f' (gD_no (by omega)) (gD_no (by omega)), e⟩ f'.1 f'.2.1 (f'.ke gD_cS)
theorem cw_character (hG : zd_G B) (hl : l.stackTraces = false) (w : Cw B h R D ln T k cap) {i : Int} (hi : iR i) (hq : Q (.inl (some (.int (if i < 0 ∨ (T.length : Int) ≤ i then -1 else nI (T[i.toNat]?.getD 0))))) h) : zd_M l B m_De_character [.ref (zd_b0 B + 0), .int (iI i)] h Q := by
  obtain ⟨⟨r, v, o, c, x0⟩, ⟨ng, fd, eo, dn, df, ex, g⟩, t, e⟩ := w
  obtain ⟨f, t1, t2, t3, t4⟩ := id t
  refine zd_go (ok_De_character hG hl) [] 60 ?_
  conv => whnf
  refine ⟨_, x0.1.1, ?_⟩
  conv => whnf
  refine ⟨⟨_, t1⟩, ⟨rfl, Nat.le_of_ble_eq_true rfl, Nat.le_of_ble_eq_true rfl⟩, ?_⟩
  refine te_at hG hl hi t (by omega) ?_
  conv => whnf
  refine ⟨rfl, ?_, trivial⟩
  exact hq
theorem cw_read (hG : zd_G B) (hl : l.stackTraces = false) (w : Cw B h R D ln T k cap) (hR : ROk R) (hc : 34 ≤ h.1) (rm : Rm h) {to : Int} (hto : iR to) (hn : ln ≤ 1100) (hD : ∀ i, D i < 256)
    (q0 : (srd R D ln to).1 = 0 → ∀ h', Cw B h' (srd R D ln to).2.1 D (srd R D ln to).2.2 T k cap → h'.1 = h.1 → h'.2.1 = h.2.1 → Ke B h h' (cS B k) → Q (.inl none) h')
    (qx : ∀ c, (c = 9 ∧ (srd R D ln to).1 = 1) ∨ (c = 10 ∧ (srd R D ln to).1 = 2) ∨ (c = 11 ∧ (srd R D ln to).1 = 3) → ∀ h', Cw B h' (srd R D ln to).2.1 D (srd R D ln to).2.2 T k cap → h'.1 = h.1 + 1 → h'.2.1 = h.2.1 + 6 → Ke B h h' (cS B k) → Q (.inr (zd_b0 B + h.1, c)) h') : zd_M l B m_De_read [.ref (zd_b0 B + 0), .int (iI to)] h Q := by
  have hk : k = 35 ∨ 64 < k := by have := w.2.2.2; omega
  unfold srd at q0 qx
  refine zd_go (ok_De_read hG hl) [] 60 ?_
  conv => whnf
  refine ⟨⟨rfl, Nat.le_of_ble_eq_true rfl, Nat.le_of_ble_eq_true rfl⟩, ?_⟩
  refine cw_zx (as := [.int (iI to)]) (Q := fun o a => ((o = .inl none ∧ ¬ (to < 0 ∨ 10 ≤ to)) ∨ (o = .inr 9 ∧ (to < 0 ∨ 10 ≤ to))) ∧ a.1 = R) (fun r v o c => j_reg hG hl hto (fun z => ⟨Or.inl ⟨rfl, z⟩, rfl⟩) (fun z => ⟨Or.inr ⟨rfl, z⟩, rfl⟩)) w rm (fun v a h1 q w1 c1 c2 ke1 => ?_) (fun cc a h1 q w1 c1 c2 ke1 => ?_)
  · obtain ⟨q, ea⟩ := q
    rcases q with ⟨q1, q2⟩ | ⟨q1, q2⟩
    · cases q1
      rw [ea] at w1
      rw [if_neg q2] at q0 qx
      have rm1 : Rm h1 := ⟨by rw [c1]; exact rm.1, by rw [c2]; exact rm.2⟩
      have ke1 : Ke B h h1 (cS B k) := ⟨ke1.1, fun a ha hn => ke1.2 a ha (fun z => hn (xs_cS a z))⟩
      obtain ⟨⟨r, v, o, c, x1⟩, ⟨ng, fd, eo, dn, df, ex, g1⟩, t1, e1⟩ := w1
      conv => whnf
      refine ⟨_, x1.1.1, ?_⟩
      conv => whnf
      refine ⟨⟨_, g1.dob⟩, ⟨rfl, Nat.le_of_ble_eq_true rfl, Nat.le_of_ble_eq_true rfl⟩, ?_⟩
      refine cw_dr (as := [.ref 32]) (Q := fun v m => (v = some (.int (bI false)) ∧ sp_says D ln = none ∧ ∃ ng fd eo dn df ex, m = dS D ln ng fd eo dn df ex) ∨ (v = some (.int (bI true)) ∧ ∃ (n : Bool) (V : Nat) (s : Int) (fd e : Nat) (ex : Int), sp_says D ln = some (n, V, s) ∧ fd + e ≤ ln ∧ (∀ k, k < e → sco (atc D ln) fd k = true) ∧ V = scv (atc D ln) fd e ∧ s = (scf (atc D ln) fd e : Int) - ex ∧ -20000000000 < ex ∧ ex < 20000000000 ∧ m = dS D ln n fd (fd + e) (scn (atc D ln) fd e) (scf (atc D ln) fd e) ex)) g1 (d_isNumberText hG hl hn hD (fun z ng fd eo dn df ex => Or.inl ⟨rfl, z, ng, fd, eo, dn, df, ex, rfl⟩) (fun n V s z fd e ex z1 z2 z3 z4 z5 z6 _ => Or.inr ⟨rfl, n, V, s, fd, e, ex, z, z1, z2, z3, z4, z5, z6, rfl⟩)) (by omega) (fun v' m' h2 q g2 f2 => ?_)
      have x2 := f2.gD_xi x1
      have t2 := t1.kept f2 (gD_no (by omega)) (gD_no (by omega))
      have ke2 : Ke B h h2 (cS B k) := ke1.tr (f2.ke gD_cS)
      have rm2 : Rm h2 := rm1.kept f2
      have c21 := f2.1
      have c22 := f2.2.1
      rcases q with ⟨q3, q4, ng2, fd2, eo2, dn2, df2, ex2, q5⟩ | ⟨q3, n, V, s, fd2, e2, ex2, q4, z1, z2, z3, z4, z5, z6, q5⟩
      · subst q3
        subst q5
        rw [q4] at qx
        conv => whnf
        refine ⟨fun z => absurd rfl z, fun _ => ?_⟩
        conv => whnf
        refine ⟨⟨Nat.zero_le _, rm2.1, rm2.2⟩, ?_, trivial⟩
        have c3 : h2.1 = h.1 := by omega
        rw [c3]
        have kp : Ke B h2 (zd_push h2 (zd_b0 B + h2.1) (.inl (10, [])) 6) (fun _ => False) := Ke.push
        rw [c3] at kp
        exact qx 10 (Or.inr (Or.inl ⟨rfl, rfl⟩)) _ ⟨⟨r, v, o, c, kp.xie x2 (fun _ _ z => z)⟩, ⟨ng2, fd2, eo2, dn2, df2, ex2, kp.gi g2 (fun _ _ z => z)⟩, kp.tx t2 (fun z => z) (fun z => z), e1⟩ (by show h2.1 + 1 = _; omega) (by show h2.2.1 + 6 = _; omega) (ke2.tr ⟨kp.1, fun a ha _ => kp.2 a ha (fun z => z)⟩)
      · subst q3
        subst q5
        rw [q4] at q0 qx
        dsimp only at q0 qx
        obtain ⟨fl1, fl2⟩ := scn_le (atc D ln) fd2 e2
        conv => whnf
        refine ⟨fun _ => ?_, fun z => absurd z (by decide)⟩
        conv => whnf
        refine ⟨_, x2.1.1, ?_⟩
        conv => whnf
        refine ⟨⟨_, g2.dob⟩, ⟨rfl, Nat.le_of_ble_eq_true rfl, Nat.le_of_ble_eq_true rfl⟩, ?_⟩
        refine cw_dr (as := [.ref 32]) (Q := fun v m => v = some (.long (lI s)) ∧ m = dS D ln n fd2 (fd2 + e2) (scn (atc D ln) fd2 e2) (scf (atc D ln) fd2 e2) ex2) g2 (d_saidScale hG hl (by omega) ⟨by rw [z4], rfl⟩) (by omega) (fun v' m' h3 q g3 f3 => ?_)
        obtain ⟨q6, q7⟩ := q
        subst q6
        subst q7
        have x3 := f3.gD_xi x2
        have t3 := t2.kept f3 (gD_no (by omega)) (gD_no (by omega))
        have ke3 : Ke B h h3 (cS B k) := ke2.tr (f3.ke gD_cS)
        have rm3 : Rm h3 := rm2.kept f3
        have c31 := f3.1
        have c32 := f3.2.1
        have w3 : Cw B h3 R D ln T k cap := ⟨⟨r, v, o, c, x3⟩, ⟨_, _, _, _, _, _, g3⟩, t3, e1⟩
        conv => whnf
        refine ⟨⟨rfl, Nat.le_of_ble_eq_true rfl, Nat.le_of_ble_eq_true rfl⟩, ?_⟩
        refine zd_W.post (zx_call (as := [.long (lI s)]) (Q := fun o a => ((o = .inl none ∧ (-10000 ≤ s ∧ s ≤ 10000)) ∨ (o = .inr 11 ∧ (s < -10000 ∨ 10000 < s))) ∧ a = (R, r, v, _, c)) (j_scale hG hl ⟨by omega, by omega⟩ (fun z z' => ⟨Or.inl ⟨rfl, z, z'⟩, rfl⟩) (fun z => ⟨Or.inr ⟨rfl, z⟩, rfl⟩)) rm3 x3) (fun z h4 => ?_)
        rintro ⟨o', a4, x4, ⟨q8, q9⟩, hm⟩
        subst q9
        rcases q8 with ⟨q8, s1, s2⟩ | ⟨q8, s1⟩
        · subst q8
          obtain ⟨e4, f4⟩ := hm
          subst e4
          have g4 := g3.kept f4 gD_xs
          have t4 := t3.kept f4 xs_no34 (xs_nok hk)
          have ke4 : Ke B h h4 (cS B k) := ke3.tr (f4.ke xs_cS)
          have rm4 : Rm h4 := rm3.kept f4
          have c41 := f4.1
          have c42 := f4.2.1
          conv => whnf
          refine ⟨_, x4.1.1, ?_⟩
          conv => whnf
          refine ⟨_, x4.1.1, ?_⟩
          conv => whnf
          refine ⟨_, x4.2.2.1, ?_⟩
          conv => whnf
          refine ⟨⟨_, g4.dob⟩, ⟨rfl, Nat.le_of_ble_eq_true rfl, Nat.le_of_ble_eq_true rfl⟩, ?_⟩
          refine dr_fill hG hl hn hD z1 z2 rfl g4 x4.2.2.2.1.s rm4 (fun h5 f5 n5 => ?_)
          have x5 := xi.n47 (o := some V) x4 f5 (by rw [z3]; exact n5)
          have hr47 : ∀ q, gS B gD q → ¬ NS B 47 q := fun q hq z => by
            have q1 : zd_b0 B + 32 ≤ q := hq.1
            have q2 : q ≤ zd_b0 B + 32 + 1 := hq.2
            rcases z with z | z <;> omega
          have g5 := g4.kept f5 hr47
          have t5 := t4.kept f5 (NS_o (by omega)) (NS_o (by omega))
          have ke5 : Ke B h h5 (cS B k) := ke4.tr (f5.ke (fun q z => xs_cS q (xs47 q z)))
          have rm5 : Rm h5 := rm4.kept f5
          have c51 := f5.1
          have c52 := f5.2.1
          conv => whnf
          refine ⟨_, x5.1.1, ?_⟩
          conv => whnf
          refine ⟨_, x5.1.1, ?_⟩
          conv => whnf
          refine ⟨⟨_, g5.dob⟩, ⟨rfl, Nat.le_of_ble_eq_true rfl, Nat.le_of_ble_eq_true rfl⟩, ?_⟩
          refine cw_dr (as := [.ref 32]) (Q := fun v m => v = some (.int (bI n)) ∧ m = dS D ln n fd2 (fd2 + e2) (scn (atc D ln) fd2 e2) (scf (atc D ln) fd2 e2) ex2) g5 (d_saysNegative hG hl ⟨rfl, rfl⟩) (by omega) (fun v' m' h6 q g6 f6 => ?_)
          obtain ⟨q6, q7⟩ := q
          subst q6
          subst q7
          have x6 := f6.gD_xi x5
          have t6 := t5.kept f6 (gD_no (by omega)) (gD_no (by omega))
          have ke6 : Ke B h h6 (cS B k) := ke5.tr (f6.ke gD_cS)
          have rm6 : Rm h6 := rm5.kept f6
          have c61 := f6.1
          have c62 := f6.2.1
          conv => whnf
          refine ⟨_, x6.1.1, ?_⟩
          conv => whnf
          refine ⟨⟨_, g6.dob⟩, ⟨rfl, Nat.le_of_ble_eq_true rfl, Nat.le_of_ble_eq_true rfl⟩, ?_⟩
          refine cw_dr (as := [.ref 32]) (Q := fun v m => v = some (.long (lI s)) ∧ m = dS D ln n fd2 (fd2 + e2) (scn (atc D ln) fd2 e2) (scf (atc D ln) fd2 e2) ex2) g6 (d_saidScale hG hl (by omega) ⟨by rw [z4], rfl⟩) (by omega) (fun v' m' h7 q g7 f7 => ?_)
          obtain ⟨q6, q7⟩ := q
          subst q6
          subst q7
          have x7 := f7.gD_xi x6
          have t7 := t6.kept f7 (gD_no (by omega)) (gD_no (by omega))
          have ke7 : Ke B h h7 (cS B k) := ke6.tr (f7.ke gD_cS)
          have rm7 : Rm h7 := rm6.kept f7
          have c71 := f7.1
          have c72 := f7.2.1
          conv => whnf
          rw [lI_i]
          refine ⟨⟨_, x7.2.2.1⟩, ⟨rfl, Nat.le_of_ble_eq_true rfl, Nat.le_of_ble_eq_true rfl⟩, ?_⟩
          refine zd_W.post (zx_call (as := [.ref 46, .int (bI n), .int (iI s)]) (Q := fun o' a => o' = .inl none ∧ a = (R, (bI n, iI s, bI false), some V, o, c)) (j_describe hG hl ⟨rfl, rfl⟩) rm7 x7) (fun z h8 => ?_)
          rintro ⟨o', a8, x8, ⟨q8, q9⟩, hm⟩
          subst q8
          subst q9
          obtain ⟨e8, f8⟩ := hm
          subst e8
          have g8 := g7.kept f8 gD_xs
          have t8 := t7.kept f8 xs_no34 (xs_nok hk)
          have ke8 : Ke B h h8 (cS B k) := ke7.tr (f8.ke xs_cS)
          have rm8 : Rm h8 := rm7.kept f8
          have c81 := f8.1
          have c82 := f8.2.1
          obtain ⟨tn, et, ht⟩ := iI_of_nat q2
          subst et
          rw [show ((tn : Int)).toNat = tn from rfl] at q0 qx
          have hVd : dg V < 2 ^ 31 := by
            have := n5.nl
            rw [← z3] at this
            unfold nl at this
            split at this
            · rename_i e0
              rw [e0, dg_0]
              decide
            · omega
          conv => whnf
          refine ⟨⟨_, x8.1.1⟩, ⟨rfl, Nat.le_of_ble_eq_true rfl, Nat.le_of_ble_eq_true rfl⟩, ?_⟩
          refine zd_W.post (zx_call (as := [.ref 0, .int (nI tn)]) (Q := fun o' a => (o' = .inl none ∧ ∃ p, fin (some (V, s)) = some p ∧ a.1 = zpu R tn (n && decide (p.1 ≠ 0), p.1, p.2)) ∨ (o' = .inr 11 ∧ fin (some (V, s)) = none ∧ a.1 = R)) (j_keep hG hl ht ⟨by omega, by omega⟩ hVd ⟨fun V' s' z r v o c => Or.inl ⟨rfl, (V', s'), z, rfl⟩, fun z r v o c => Or.inr ⟨rfl, z, rfl⟩⟩) rm8 x8) (fun z h9 => ?_)
          rintro ⟨o', a9, x9, q8, hm⟩
          rcases q8 with ⟨q8, p, p1, p2⟩ | ⟨q8, p1, p2⟩
          · subst q8
            obtain ⟨e9, f9⟩ := hm
            subst e9
            have g9 := g8.kept f9 gD_xs
            have t9 := t8.kept f9 xs_no34 (xs_nok hk)
            have ke9 : Ke B h h9 (cS B k) := ke8.tr (f9.ke xs_cS)
            have c91 := f9.1
            have c92 := f9.2.1
            rw [p1] at q0
            conv => whnf
            refine ⟨_, x9.1.1, ?_⟩
            conv => whnf
            refine ⟨⟨_, g9.dob⟩, ⟨rfl, Nat.le_of_ble_eq_true rfl, Nat.le_of_ble_eq_true rfl⟩, ?_⟩
            refine cw_dr (as := [.ref 32]) (Q := fun v m => v = some (.int (nI ln)) ∧ m = dS D 0 n fd2 (fd2 + e2) (scn (atc D ln) fd2 e2) (scf (atc D ln) fd2 e2) ex2) g9 (d_clear hG hl ⟨rfl, rfl⟩) (by omega) (fun v' m' h10 q g10 f10 => ?_)
            obtain ⟨q6, q7⟩ := q
            subst q6
            subst q7
            have x10 := f10.gD_xi x9
            have c101 := f10.1
            have c102 := f10.2.1
            conv => whnf
            refine ⟨q0 rfl h10 ⟨⟨a9.2.1, a9.2.2.1, a9.2.2.2.1, a9.2.2.2.2, ?_⟩, ⟨_, _, _, _, _, _, g10⟩, t9.kept f10 (gD_no (by omega)) (gD_no (by omega)), e1⟩ (by omega) (by omega) (ke9.tr (f10.ke gD_cS)), trivial⟩
            have : xi B h10 (a9.1, a9.2) := x10
            rw [p2] at this
            exact this
          · subst q8
            obtain ⟨e9, f9, -⟩ := hm
            subst e9
            rw [p1] at qx
            have k9 : Ke B h8 h9 (xs B) := f9.ke (fun _ z => z)
            have c91 := f9.1
            have c92 := f9.2.1
            have ex8 : h8.1 = h.1 := by omega
            rw [ex8]
            refine qx 11 (Or.inr (Or.inr ⟨rfl, rfl⟩)) h9 ⟨⟨a9.2.1, a9.2.2.1, a9.2.2.2.1, a9.2.2.2.2, ?_⟩, ⟨_, _, _, _, _, _, k9.gi g8 gD_xs⟩, k9.tx t8 xs_no34 (xs_nok hk), e1⟩ (by omega) (by omega) (ke8.tr (f9.ke xs_cS))
            have : xi B h9 (a9.1, a9.2) := x9
            rw [p2] at this
            exact this
        · subst q8
          obtain ⟨e4, f4, -⟩ := hm
          subst e4
          have k4 : Ke B h3 h4 (xs B) := f4.ke (fun _ z => z)
          have c41 := f4.1
          have c42 := f4.2.1
          have ex3 : h3.1 = h.1 := by omega
          have fn : fin (some (V, s)) = none := by rw [fin_some, if_neg (by show ¬ (_ ∧ -10000 ≤ s ∧ s ≤ 10000); omega)]
          rw [fn] at qx
          rw [ex3]
          exact qx 11 (Or.inr (Or.inr ⟨rfl, rfl⟩)) h4 ⟨⟨r, v, o, c, x4⟩, ⟨_, _, _, _, _, _, k4.gi g3 gD_xs⟩, k4.tx t3 xs_no34 (xs_nok hk), e1⟩ (by omega) (by omega) (ke3.tr (f4.ke xs_cS))
    · cases q1
  · obtain ⟨q, ea⟩ := q
    rcases q with ⟨q1, q2⟩ | ⟨q1, q2⟩
    · cases q1
    · cases q1
      rw [ea] at w1
      rw [if_pos q2] at qx
      exact qx 9 (Or.inl ⟨rfl, rfl⟩) h1 w1 c1 c2 ⟨ke1.1, fun a ha hn => ke1.2 a ha (fun z => hn (xs_cS a z))⟩
end YB

/-! the class: written -/
section YC
variable {l : Launch} {B : zd_B} {h : zd_H} {Q : zd_O → zd_H → Prop} {R : Nat → zr} {D : Nat → Nat} {ln : Nat} {T : List Nat} {k cap : Nat}
theorem te_spell (hG : zd_G B) (hl : l.stackTraces = false) {A kd V : Nat} {ng : Bool} {s : Int} (hA : A < 10) (hkd : kd < 3) (hd : dg V ≤ 1000) (hs : -10000 ≤ s ∧ s ≤ 10000) (hk : 34 < k) (hk2 : k = 35 ∨ 64 < k) (hkh : k < h.1) (hh : 64 < h.1) (hT : Tx B h k cap T) (hcap : cap = 1100 ∨ cap = 11020) (hD : Dc B h (2 + 3 * A) ng V s) (hr : h.1 + 1 ≤ zd_CB ∧ (cap = 1100 → h.2.1 + 11020 ≤ zd_SB))
    (hq : ∀ h' k' cap', Tx B h' k' cap' (sp_txt (ng, V, s) kd) → ((k' = k ∧ cap' = cap ∧ h'.1 = h.1 ∧ h'.2.1 = h.2.1) ∨ (k' = h.1 ∧ cap = 1100 ∧ cap' = 11020 ∧ h'.1 = h.1 + 1 ∧ h'.2.1 = h.2.1 + 11020)) → Ke B h h' (TS B k) → Q (.inl (some (.int (nI (sp_txt (ng, V, s) kd).length)))) h') : zd_M l B m_Te_spell [.ref (zd_b0 B + 34), .ref (zd_b0 B + (2 + 3 * A)), .int (nI kd)] h Q := by
  obtain ⟨f, t1, t2, t3, t4⟩ := id hT
  obtain ⟨fs, ob⟩ := hD.2.ob
  have hp := dg_pos V
  have rs : iR s := ⟨by omega, by omega⟩
  refine zd_go (ok_Te_spell hG hl) [31] 60 ?_
  conv => whnf
  refine ⟨_, hD.1, ?_⟩
  conv => whnf
  refine ⟨⟨_, ob⟩, ⟨rfl, Nat.le_of_ble_eq_true rfl, Nat.le_of_ble_eq_true rfl⟩, ?_⟩
  refine v_digits hG hl hD.2 ?_
  conv => whnf
  refine ⟨_, hD.1, ?_⟩
  conv => whnf
  refine ⟨_, hD.1, ?_⟩
  conv => whnf
  refine ⟨⟨rfl, Nat.le_of_ble_eq_true rfl, Nat.le_of_ble_eq_true rfl⟩, ?_⟩
  refine c_Ma_abs hG hl ?_
  rw [abs_nI rs]
  conv => whnf
  rw [nI_add]
  refine ⟨⟨_, t1⟩, ⟨rfl, Nat.le_of_ble_eq_true rfl, Nat.le_of_ble_eq_true rfl⟩, ?_⟩
  refine te_restart hG hl hk hkh hT hcap (by omega) hr (fun h1 k1 cap1 a1 a2 a3 a4 a5 a6 => ?_)
  conv => whnf
  refine ⟨?_, trivial⟩
  have ke1 : Ke B h h1 (fun q => q = zd_b0 B + 34) := ⟨by omega, fun a ha hn => a6 a ha hn⟩
  have hD1 : Dc B h1 (2 + 3 * A) ng V s := by
    have := hD.kept ke1.fg (fun e => by omega) (fun e => by omega) (fun e => by omega)
    exact this
  have hk1 : k1 = 35 ∨ 64 < k1 := by omega
  have ti1 : ti B h1 (k1, cap1, A, ng, V, s) [] := ⟨⟨a3, by show k1 = 35 ∨ 53 ≤ k1; omega, by show cap1 ≤ 11020; omega, hA⟩, a4, hD1⟩
  rw [show nI (dg V) - 1 - iI s = iI ((dg V : Int) - 1 - s) by rw [iI_nI, show iI (dg V : Int) - 1 = iI ((dg V : Int) - 1) from iI_sub _ 1, iI_sub]]
  have := u_spell (k := k1) (cap := cap1) (A := A) (Q := fun v L => v = some (.int (nI (sp_txt (ng, V, s) kd).length)) ∧ L = sp_txt (ng, V, s) kd) hG hl hkd hd hs (by omega) ⟨rfl, rfl⟩ h1 h1 Fg.rf ti1
  refine zd_W.post this (fun x h2 => ?_)
  rintro ⟨v, L, ti2, ⟨q1, q2⟩, e, f2⟩
  subst q1
  subst q2
  subst e
  have c1 := f2.1
  have c2 := f2.2.1
  refine hq h2 k1 cap1 ti2.2.1 (by omega) ?_
  refine ⟨by omega, fun a ha hn => ?_⟩
  have h34 : a ≠ zd_b0 B + 34 := fun e => hn (Or.inl e)
  rw [f2.2.2 a (by omega) (fun z => ?_), a6 a ha h34]
  rcases z with z | z
  · exact h34 z
  · rcases a5 with ⟨b1, -⟩ | ⟨b1, -⟩
    · exact hn (Or.inr (by rw [z]; show zd_b0 B + k1 = _; rw [b1]))
    · have z : a = zd_b0 B + k1 := z
      omega
def swr (R : Nat → zr) (a kind : Int) : Nat := if (a < 0 ∨ 10 ≤ a) ∨ (kind < 0 ∨ 3 ≤ kind) then 1 else 0
theorem cw_written (hG : zd_G B) (hl : l.stackTraces = false) (w : Cw B h R D ln T k cap) (hR : ROk R) (hc : 64 < h.1) (hkh : k < h.1) (rm : Rm h) (rm2 : cap = 1100 → h.2.1 + 11020 ≤ zd_SB) {a kd : Int} (ha : iR a) (hkd : iR kd)
    (q0 : ∀ A K : Nat, a = A → kd = K → A < 10 → K < 3 → ∀ h' k' cap', Cw B h' R D ln (sp_txt (R A) K) k' cap' → ((k' = k ∧ cap' = cap ∧ h'.1 = h.1 ∧ h'.2.1 = h.2.1) ∨ (k' = h.1 ∧ cap = 1100 ∧ cap' = 11020 ∧ h'.1 = h.1 + 1 ∧ h'.2.1 = h.2.1 + 11020)) → Ke B h h' (cS B k) → Q (.inl (some (.int (nI (sp_txt (R A) K).length)))) h')
    (qx : (a < 0 ∨ 10 ≤ a) ∨ (kd < 0 ∨ 3 ≤ kd) → ∀ h', Cw B h' R D ln T k cap → h'.1 = h.1 + 1 → h'.2.1 = h.2.1 + 6 → Ke B h h' (cS B k) → Q (.inr (zd_b0 B + h.1, 9)) h') : zd_M l B m_De_written [.ref (zd_b0 B + 0), .int (iI a), .int (iI kd)] h Q := by
  have hk : k = 35 ∨ 64 < k := by have := w.2.2.2; omega
  have r0 : iR 0 := ⟨by decide, by decide⟩
  have r3 : iR 3 := ⟨by decide, by decide⟩
  refine zd_go (ok_De_written hG hl) [] 60 ?_
  conv => whnf
  refine ⟨⟨rfl, Nat.le_of_ble_eq_true rfl, Nat.le_of_ble_eq_true rfl⟩, ?_⟩
  refine cw_zx (as := [.int (iI a)]) (Q := fun o z => ((o = .inl none ∧ ¬ (a < 0 ∨ 10 ≤ a)) ∨ (o = .inr 9 ∧ (a < 0 ∨ 10 ≤ a))) ∧ z.1 = R) (fun r v o c => j_reg hG hl ha (fun z => ⟨Or.inl ⟨rfl, z⟩, rfl⟩) (fun z => ⟨Or.inr ⟨rfl, z⟩, rfl⟩)) w rm (fun v z h1 q w1 c1 c2 ke1 => ?_) (fun cc z h1 q w1 c1 c2 ke1 => ?_)
  · obtain ⟨q, ea⟩ := q
    rcases q with ⟨q1, q2⟩ | ⟨q1, q2⟩
    · cases q1
      rw [ea] at w1
      have rm1 : Rm h1 := ⟨by rw [c1]; exact rm.1, by rw [c2]; exact rm.2⟩
      have ke1 : Ke B h h1 (cS B k) := ⟨ke1.1, fun a ha hn => ke1.2 a ha (fun z => hn (xs_cS a z))⟩
      conv => whnf
      by_cases k1 : kd < 0
      · refine ⟨fun _ => ?_, fun z => absurd ((iI_lt hkd r0).mpr k1) z⟩
        conv => whnf
        have kp : Ke B h1 (zd_push h1 (zd_b0 B + h1.1) (.inl (9, [])) 6) (fun _ => False) := Ke.push
        refine ⟨⟨Nat.zero_le _, rm1.1, rm1.2⟩, ?_, trivial⟩
        rw [c1]
        rw [c1] at kp
        exact qx (Or.inr (Or.inl k1)) _ (kp.cw w1 (fun _ _ z => z)) (by show h1.1 + 1 = _; omega) (by show h1.2.1 + 6 = _; omega) (ke1.tr ⟨kp.1, fun a ha _ => kp.2 a ha (fun z => z)⟩)
      · refine ⟨fun z => absurd ((iI_lt hkd r0).mp z) k1, fun _ => ?_⟩
        conv => whnf
        by_cases k2 : kd < 3
        · refine ⟨fun _ => ?_, fun z => absurd ((iI_lt hkd r3).mpr k2) z⟩
          obtain ⟨A, eA, hA⟩ := iI_of_nat q2
          obtain ⟨K, eK, hK⟩ : ∃ K : Nat, kd = K ∧ K < 3 := ⟨kd.toNat, by omega, by omega⟩
          subst eA
          subst eK
          have q0 := q0 A K rfl rfl hA hK
          obtain ⟨⟨r, v, o, c, x1⟩, g1, t1, e1⟩ := id w1
          obtain ⟨f, o1, o2, o3, o4⟩ := id t1
          obtain ⟨b1, b2, b3, -⟩ := hR A hA
          conv => whnf
          refine ⟨_, x1.1.1, ?_⟩
          conv => whnf
          refine ⟨_, x1.1.1, ?_⟩
          conv => whnf
          refine ⟨_, _, zd_b0 B + (2 + 3 * A), x1.1.2, vp_in_nI hA (by decide), ?_, ?_⟩
          · rw [show (iI (A : Int)).toNatClampNeg = A from nI_clamp (n := A) (by omega)]
          · conv => whnf
            refine ⟨⟨_, o1⟩, ⟨rfl, Nat.le_of_ble_eq_true rfl, Nat.le_of_ble_eq_true rfl⟩, ?_⟩
            refine te_spell hG hl hA hK b1 ⟨b2, b3⟩ (by omega) hk (by omega) (by omega) t1 (by omega) (x1.2.1 A hA) ⟨by rw [c1]; exact rm.1, by rw [c2]; exact rm2⟩ (fun h2 k' cap' t2 a5 ke2 => ?_)
            conv => whnf
            refine ⟨rfl, ?_, trivial⟩
            have ke2' : Ke B h1 h2 (cS B k) := ⟨ke2.1, fun a ha hn => ke2.2 a ha (fun z => hn (by rcases z with z | z; exact Or.inl ⟨by omega, by omega⟩; exact Or.inr z))⟩
            obtain ⟨ng2, fd2, eo2, dn2, df2, ex2, g1⟩ := g1
            have nt : ∀ j, j < 53 → j ≠ 34 → j ≠ 35 → ¬ TS B k (zd_b0 B + j) := fun j h1 h2 h3 z => by rcases z with z | z <;> omega
            refine q0 h2 k' cap' ⟨⟨r, v, o, c, ?_⟩, ⟨ng2, fd2, eo2, dn2, df2, ex2, ke2.gi g1 (fun q hq z => ?_)⟩, t2, by omega⟩ (by omega) (ke1.tr ke2')
            · have f2 := ke2.fg
              have hS : ∀ k', k' < 34 ∨ (35 < k' ∧ k' < 53) → ¬ TS B k (zd_b0 B + k') := fun k' hk' => nt k' (by omega) (by omega) (by omega)
              obtain ⟨⟨x1, x2⟩, x3, x4, x5, x6, x7, x8, x9, x10, x11, x12, x13⟩ := x1
              have : xi B (h2.1, h1.2.1 + 6 * (h2.1 - h1.1), h2.2.2) (R, r, v, o, c) := ⟨⟨f2.ob x1 (hS 0 (by decide)), f2.ar x2 (hS 1 (by decide))⟩, fun i hi => (x3 i hi).kept f2 (hS _ (by omega)) (hS _ (by omega)) (hS (2 + 3 * i + 1 + 1) (by omega)), f2.ob x4 (hS 46 (by decide)), x5.kept f2 (hS 47 (by decide)) (hS 48 (by decide)), x6.kept f2 (hS 49 (by decide)) (hS 50 (by decide)), x7.kept f2 (hS 51 (by decide)) (hS 52 (by decide)), f2.ob x8 (hS 36 (by decide)), x9.kept f2 (hS 37 (by decide)) (hS 38 (by decide)), f2.ob x10 (hS 39 (by decide)), x11.kept f2 (hS 40 (by decide)) (hS 41 (by decide)), x12.kept f2 (hS 42 (by decide)) (hS 43 (by decide)), x13.kept f2 (hS 44 (by decide)) (hS 45 (by decide))⟩
              exact this
            · have q1 : zd_b0 B + 32 ≤ q := hq.1
              have q2 : q ≤ zd_b0 B + 32 + 1 := hq.2
              rcases z with z | z <;> omega
        · refine ⟨fun z => absurd ((iI_lt hkd r3).mp z) k2, fun _ => ?_⟩
          conv => whnf
          have kp : Ke B h1 (zd_push h1 (zd_b0 B + h1.1) (.inl (9, [])) 6) (fun _ => False) := Ke.push
          refine ⟨⟨Nat.zero_le _, rm1.1, rm1.2⟩, ?_, trivial⟩
          rw [c1]
          rw [c1] at kp
          exact qx (Or.inr (Or.inr (by omega))) _ (kp.cw w1 (fun _ _ z => z)) (by show h1.1 + 1 = _; omega) (by show h1.2.1 + 6 = _; omega) (ke1.tr ⟨kp.1, fun a ha _ => kp.2 a ha (fun z => z)⟩)
    · cases q1
  · obtain ⟨q, ea⟩ := q
    rcases q with ⟨q1, q2⟩ | ⟨q1, q2⟩
    · cases q1
    · cases q1
      rw [ea] at w1
      exact qx (Or.inl q2) h1 w1 c1 c2 ⟨ke1.1, fun a ha hn => ke1.2 a ha (fun z => hn (xs_cS a z))⟩
end YC

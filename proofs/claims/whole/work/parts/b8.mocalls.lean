/-! calls of the model -/
def Qm (G : Nat × (Nat → zr)) (ln pr : Nat) (D pa : Nat → Nat) : Option Value → zst → Prop := fun v m => v = none ∧ ∃ (sz : Nat) (sc : Int) (mo be : Bool) (ts us lz fa : Nat) (K Mn : Nat → Nat) (Mi : Nat → Bool) (Sc : Nat → Int) (rw tp un lf : Nat → Nat), m = mS G.1 ln sz sc mo be ts us lz pr fa D K Mn Mi Sc rw tp un lf pa ∧ MR G.2 K Mn Mi Sc ∧ ∀ i, rw i < 10
theorem res_gen {R : Nat → zr} {bad zero : Prop} [Decidable bad] [Decidable zero] {T : Nat} {ng : Bool} {o : Option (Nat × Int)} {ln pr : Nat} {D pa K Mn : Nat → Nat} {Mi : Nat → Bool} {Sc : Nat → Int} (h : ¬ bad) (hz : ¬ zero) (hM : MR R K Mn Mi Sc) : Res (Qm (gen R bad zero T ng o) ln pr D pa) R T 0 ln pr 2 D pa K Mn Mi Sc ng o := by
  refine ⟨fun V s e K' Mn' Mi' Sc' hM' sz sc mo be ts us lz rw tp un lf hr => ?_, fun e sz sc mo be ts us lz rw tp un lf hr => ?_⟩
  · rw [gen_some h hz e]
    exact ⟨rfl, sz, sc, mo, be, ts, us, lz, 2, K', Mn', Mi', Sc', rw, tp, un, lf, rfl, hM', hr⟩
  · rw [gen_none h hz e]
    exact ⟨rfl, sz, sc, mo, be, ts, us, lz, 2, K, Mn, Mi, Sc, rw, tp, un, lf, rfl, hM, hr⟩
theorem gM_len : gM.2.2.length = 10 := rfl
/-- a call of the model, whatever it is -/
theorem mw_any {l : Launch} {B : zd_B} {y : zd_Y} {as : List Value} {h : zd_H} {Qz : Option Value → zst → Prop} {Q : zd_O → zd_H → Prop} {t : Nat} {R : Nat → zr} {D : Nat → Nat} {ln : Nat} {T : List Nat} (w : Mw B h t R D ln T) (hc : 64 ≤ h.1)
    (hM : ∀ (sz : Nat) (sc : Int) (mo be : Bool) (ts us lz pr fa : Nat) (K Mn : Nat → Nat) (Mi : Nat → Bool) (Sc : Nat → Int) (rw tp un lf pa : Nat → Nat), MR R K Mn Mi Sc → PT pa pr T → (∀ i, rw i < 10) → zm_M l B gM y as (mS t ln sz sc mo be ts us lz pr fa D K Mn Mi Sc rw tp un lf pa) Qz)
    (post : ∀ v m' h', Qz v m' → Gi B h' gM m' → h'.1 = h.1 → h'.2.1 = h.2.1 → Ke B h h' (gS B gM) → Q (.inl (v.map (vm B))) h') : zd_M l B y (as.map (vm B)) h Q := by
  obtain ⟨sz, sc, mo, be, ts, us, lz, pr, fa, K, Mn, Mi, Sc, rw, tp, un, lf, pa, g, z1, z2, z3⟩ := w
  exact gm_call (hM sz sc mo be ts us lz pr fa K Mn Mi Sc rw tp un lf pa z1 z2 z3) g hc (fun v m' h' q g' f => post v m' h' q g' f.1 f.2.1 (f.ke (fun _ z => z)))
theorem mw_gen {l : Launch} {B : zd_B} {y : zd_Y} {as : List Value} {h : zd_H} {Q : zd_O → zd_H → Prop} {t : Nat} {R : Nat → zr} {D : Nat → Nat} {ln : Nat} {T : List Nat} {G : Nat × (Nat → zr)} (w : Mw B h t R D ln T) (hc : 64 ≤ h.1)
    (hM : ∀ (sz : Nat) (sc : Int) (mo be : Bool) (ts us lz pr fa : Nat) (K Mn : Nat → Nat) (Mi : Nat → Bool) (Sc : Nat → Int) (rw tp un lf pa : Nat → Nat), MR R K Mn Mi Sc → PT pa pr T → (∀ i, rw i < 10) → zm_M l B gM y as (mS t ln sz sc mo be ts us lz pr fa D K Mn Mi Sc rw tp un lf pa) (Qm G ln pr D pa))
    (post : ∀ h', Mw B h' G.1 G.2 D ln T → h'.1 = h.1 → h'.2.1 = h.2.1 → Ke B h h' (gS B gM) → Q (.inl none) h') : zd_M l B y (as.map (vm B)) h Q := by
  obtain ⟨sz, sc, mo, be, ts, us, lz, pr, fa, K, Mn, Mi, Sc, rw, tp, un, lf, pa, g, z1, z2, z3⟩ := w
  refine gm_call (hM sz sc mo be ts us lz pr fa K Mn Mi Sc rw tp un lf pa z1 z2 z3) g hc (fun v m' h' q g' f => ?_)
  obtain ⟨e, sz, sc, mo, be, ts, us, lz, fa, K, Mn, Mi, Sc, rw, tp, un, lf, e2, y1, y2⟩ := q
  subst e
  subst e2
  exact post h' ⟨sz, sc, mo, be, ts, us, lz, pr, fa, K, Mn, Mi, Sc, rw, tp, un, lf, pa, g', y1, z2, y2⟩ f.1 f.2.1 (f.ke (fun _ z => z))
theorem wr_lt {x : Int64} {D : Nat → Nat} {ln : Nat} (hD : ∀ i, D i < 256) : ∀ k i, (wr x D ln k).1 i < 256 := by
  intro k
  induction k with
  | zero => exact hD
  | succ k ih =>
    intro i
    show (if byt x k = 0 then wr x D ln k else (zu (wr x D ln k).1 (wr x D ln k).2 (byt x k), (wr x D ln k).2 + 1)).1 i < 256
    split
    · exact ih i
    · show zu (wr x D ln k).1 (wr x D ln k).2 (byt x k) i < 256
      unfold zu
      split
      · exact byt_lt x k
      · exact ih i
section YH
variable {l : Launch} {B : zd_B} {h : zd_H} {Q : zd_O → zd_H → Prop} {t : Nat} {R : Nat → zr} {D : Nat → Nat} {ln : Nat} {T : List Nat}
theorem mo_thrown (hG : zd_G B) (hl : l.stackTraces = false) (w : Mw B h t R D ln T) (hc : 64 ≤ h.1) (post : ∀ h', Mw B h' t R D ln T → h'.1 = h.1 → h'.2.1 = h.2.1 → Ke B h h' (gS B gM) → Q (.inl (some (.int (nI t)))) h') : zd_M l B m_Mo_thrown [.ref (zd_b0 B + 53)] h Q := by
  refine mw_any (as := [.ref 53]) (Qz := fun v m => v = some (.int (nI t)) ∧ ∃ (sz : Nat) (sc : Int) (mo be : Bool) (ts us lz pr fa : Nat) (K Mn : Nat → Nat) (Mi : Nat → Bool) (Sc : Nat → Int) (rw tp un lf pa : Nat → Nat), m = mS t ln sz sc mo be ts us lz pr fa D K Mn Mi Sc rw tp un lf pa ∧ MR R K Mn Mi Sc ∧ PT pa pr T ∧ ∀ i, rw i < 10) w hc (fun sz sc mo be ts us lz pr fa K Mn Mi Sc rw tp un lf pa z1 z2 z3 => k_thrown hG hl ⟨rfl, sz, sc, mo, be, ts, us, lz, pr, fa, K, Mn, Mi, Sc, rw, tp, un, lf, pa, rfl, z1, z2, z3⟩) (fun v m' h' q g c1 c2 ke => ?_)
  obtain ⟨e, sz, sc, mo, be, ts, us, lz, pr, fa, K, Mn, Mi, Sc, rw, tp, un, lf, pa, e2, z⟩ := q
  subst e
  subst e2
  exact post h' ⟨sz, sc, mo, be, ts, us, lz, pr, fa, K, Mn, Mi, Sc, rw, tp, un, lf, pa, g, z⟩ c1 c2 ke
theorem mo_wipe (hG : zd_G B) (hl : l.stackTraces = false) (w : Mw B h t R D ln T) (hc : 64 ≤ h.1) (post : ∀ h', Mw B h' 0 R D 0 T → h'.1 = h.1 → h'.2.1 = h.2.1 → Ke B h h' (gS B gM) → Q (.inl (some (.int (nI ln)))) h') : zd_M l B m_Mo_wipe [.ref (zd_b0 B + 53)] h Q := by
  refine mw_any (as := [.ref 53]) (Qz := fun v m => v = some (.int (nI ln)) ∧ ∃ (sz : Nat) (sc : Int) (mo be : Bool) (ts us lz pr fa : Nat) (K Mn : Nat → Nat) (Mi : Nat → Bool) (Sc : Nat → Int) (rw tp un lf pa : Nat → Nat), m = mS 0 0 sz sc mo be ts us lz pr fa D K Mn Mi Sc rw tp un lf pa ∧ MR R K Mn Mi Sc ∧ PT pa pr T ∧ ∀ i, rw i < 10) w hc (fun sz sc mo be ts us lz pr fa K Mn Mi Sc rw tp un lf pa z1 z2 z3 => k_wipe hG hl ⟨rfl, sz, sc, mo, be, ts, us, lz, pr, fa, K, Mn, Mi, Sc, rw, tp, un, lf, pa, rfl, z1, z2, z3⟩) (fun v m' h' q g c1 c2 ke => ?_)
  obtain ⟨e, sz, sc, mo, be, ts, us, lz, pr, fa, K, Mn, Mi, Sc, rw, tp, un, lf, pa, e2, z⟩ := q
  subst e
  subst e2
  exact post h' ⟨sz, sc, mo, be, ts, us, lz, pr, fa, K, Mn, Mi, Sc, rw, tp, un, lf, pa, g, z⟩ c1 c2 ke
theorem mo_write (hG : zd_G B) (hl : l.stackTraces = false) (w : Mw B h t R D ln T) (hc : 64 ≤ h.1) {x : Int64} (hn : ln ≤ 1100)
    (hf : 1100 < ln + nzb x 8 → ∀ h', Mw B h' 0 R D ln T → h'.1 = h.1 → h'.2.1 = h.2.1 → Ke B h h' (gS B gM) → Q (.inl (some (.int (-1)))) h')
    (hq : ln + nzb x 8 ≤ 1100 → ∀ h', Mw B h' 0 R (wr x D ln 8).1 (ln + nzb x 8) T → h'.1 = h.1 → h'.2.1 = h.2.1 → Ke B h h' (gS B gM) → Q (.inl (some (.int (nI (ln + nzb x 8))))) h') : zd_M l B m_Mo_write [.ref (zd_b0 B + 53), .long x] h Q := by
  refine mw_any (as := [.ref 53, .long x]) (Qz := fun v m => ∃ (D' : Nat → Nat) (ln' : Nat), ((1100 < ln + nzb x 8 ∧ v = some (.int (-1)) ∧ D' = D ∧ ln' = ln) ∨ (ln + nzb x 8 ≤ 1100 ∧ v = some (.int (nI (ln + nzb x 8))) ∧ D' = (wr x D ln 8).1 ∧ ln' = ln + nzb x 8)) ∧ ∃ (sz : Nat) (sc : Int) (mo be : Bool) (ts us lz pr fa : Nat) (K Mn : Nat → Nat) (Mi : Nat → Bool) (Sc : Nat → Int) (rw tp un lf pa : Nat → Nat), m = mS 0 ln' sz sc mo be ts us lz pr fa D' K Mn Mi Sc rw tp un lf pa ∧ MR R K Mn Mi Sc ∧ PT pa pr T ∧ ∀ i, rw i < 10) w hc (fun sz sc mo be ts us lz pr fa K Mn Mi Sc rw tp un lf pa z1 z2 z3 => k_write hG hl hn (fun q => ⟨D, ln, Or.inl ⟨q, rfl, rfl, rfl⟩, sz, sc, mo, be, ts, us, lz, pr, fa, K, Mn, Mi, Sc, rw, tp, un, lf, pa, rfl, z1, z2, z3⟩) (fun q => ⟨_, _, Or.inr ⟨q, rfl, rfl, rfl⟩, sz, sc, mo, be, ts, us, lz, pr, fa, K, Mn, Mi, Sc, rw, tp, un, lf, pa, rfl, z1, z2, z3⟩)) (fun v m' h' q g c1 c2 ke => ?_)
  obtain ⟨D', ln', e, sz, sc, mo, be, ts, us, lz, pr, fa, K, Mn, Mi, Sc, rw, tp, un, lf, pa, e2, z⟩ := q
  subst e2
  rcases e with ⟨q, e1, e2, e3⟩ | ⟨q, e1, e2, e3⟩
  · subst e1; subst e2; subst e3
    exact hf q h' ⟨sz, sc, mo, be, ts, us, lz, pr, fa, K, Mn, Mi, Sc, rw, tp, un, lf, pa, g, z⟩ c1 c2 ke
  · subst e1; subst e2; subst e3
    exact hq q h' ⟨sz, sc, mo, be, ts, us, lz, pr, fa, K, Mn, Mi, Sc, rw, tp, un, lf, pa, g, z⟩ c1 c2 ke
theorem mo_character (hG : zd_G B) (hl : l.stackTraces = false) (w : Mw B h t R D ln T) (hc : 64 ≤ h.1) {i : Int} (hi : iR i) (hT : T.length ≤ 12200) (post : ∀ h', Mw B h' 0 R D ln T → h'.1 = h.1 → h'.2.1 = h.2.1 → Ke B h h' (gS B gM) → Q (.inl (some (.int (if i < 0 ∨ (T.length : Int) ≤ i then -1 else nI (T[i.toNat]?.getD 0))))) h') : zd_M l B m_Mo_character [.ref (zd_b0 B + 53), .int (iI i)] h Q := by
  refine mw_any (as := [.ref 53, .int (iI i)]) (Qz := fun v m => v = some (.int (if i < 0 ∨ (T.length : Int) ≤ i then -1 else nI (T[i.toNat]?.getD 0))) ∧ ∃ (sz : Nat) (sc : Int) (mo be : Bool) (ts us lz pr fa : Nat) (K Mn : Nat → Nat) (Mi : Nat → Bool) (Sc : Nat → Int) (rw tp un lf pa : Nat → Nat), m = mS 0 ln sz sc mo be ts us lz pr fa D K Mn Mi Sc rw tp un lf pa ∧ MR R K Mn Mi Sc ∧ PT pa pr T ∧ ∀ i, rw i < 10) w hc (fun sz sc mo be ts us lz pr fa K Mn Mi Sc rw tp un lf pa z1 z2 z3 => k_character hG hl hi (by rw [z2.1]; exact hT) ⟨?_, sz, sc, mo, be, ts, us, lz, pr, fa, K, Mn, Mi, Sc, rw, tp, un, lf, pa, rfl, z1, z2, z3⟩) (fun v m' h' q g c1 c2 ke => ?_)
  · rw [z2.1]
    by_cases e : i < 0 ∨ (T.length : Int) ≤ i
    · rw [if_pos e, if_pos e]
    · rw [if_neg e, if_neg e, z2.2 i.toNat (by omega)]
      rfl
  · obtain ⟨e, sz, sc, mo, be, ts, us, lz, pr, fa, K, Mn, Mi, Sc, rw, tp, un, lf, pa, e2, z⟩ := q
    subst e
    subst e2
    exact post h' ⟨sz, sc, mo, be, ts, us, lz, pr, fa, K, Mn, Mi, Sc, rw, tp, un, lf, pa, g, z⟩ c1 c2 ke
theorem mo_read (hG : zd_G B) (hl : l.stackTraces = false) (w : Mw B h t R D ln T) (hR : ROk R) (hc : 64 ≤ h.1) {to : Int} (hto : iR to) (hn : ln ≤ 1100) (hD : ∀ i, D i < 256) (post : ∀ h', Mw B h' (srd R D ln to).1 (srd R D ln to).2.1 D (srd R D ln to).2.2 T → h'.1 = h.1 → h'.2.1 = h.2.1 → Ke B h h' (gS B gM) → Q (.inl none) h') : zd_M l B m_Mo_read [.ref (zd_b0 B + 53), .int (iI to)] h Q := by
  refine mw_any (as := [.ref 53, .int (iI to)]) (Qz := fun v m => v = none ∧ ∃ (sz : Nat) (sc : Int) (mo be : Bool) (ts us lz pr fa : Nat) (K Mn : Nat → Nat) (Mi : Nat → Bool) (Sc : Nat → Int) (rw tp un lf pa : Nat → Nat), m = mS (srd R D ln to).1 (srd R D ln to).2.2 sz sc mo be ts us lz pr fa D K Mn Mi Sc rw tp un lf pa ∧ MR (srd R D ln to).2.1 K Mn Mi Sc ∧ PT pa pr T ∧ ∀ i, rw i < 10) w hc (fun sz sc mo be ts us lz pr fa K Mn Mi Sc rw tp un lf pa z1 z2 z3 => k_read hG hl hR z1 hto hn hD z3 (fun q => ?_) (fun q q2 => ?_) (fun tn e ht ng V s q2 => ?_)) (fun v m' h' q g c1 c2 ke => ?_)
  · unfold srd
    rw [if_pos q]
    exact ⟨rfl, sz, sc, mo, be, ts, us, lz, pr, fa, K, Mn, Mi, Sc, rw, tp, un, lf, pa, rfl, z1, z2, z3⟩
  · intro sz sc mo be ts us lz rw tp un lf z3
    unfold srd
    rw [if_neg q, q2]
    exact ⟨rfl, sz, sc, mo, be, ts, us, lz, pr, fa, K, Mn, Mi, Sc, rw, tp, un, lf, pa, rfl, z1, z2, z3⟩
  · subst e
    unfold srd
    rw [if_neg (by omega), q2]
    dsimp only
    refine ⟨fun V' s' e K' Mn' Mi' Sc' hM' sz sc mo be ts us lz rw tp un lf z3 => ?_, fun e sz sc mo be ts us lz rw tp un lf z3 => ?_⟩
    · rw [e]
      exact ⟨rfl, sz, sc, mo, be, ts, us, lz, pr, 3, K', Mn', Mi', Sc', rw, tp, un, lf, pa, rfl, hM', z2, z3⟩
    · rw [e]
      exact ⟨rfl, sz, sc, mo, be, ts, us, lz, pr, 3, K, Mn, Mi, Sc, rw, tp, un, lf, pa, rfl, z1, z2, z3⟩
  · obtain ⟨e, sz, sc, mo, be, ts, us, lz, pr, fa, K, Mn, Mi, Sc, rw, tp, un, lf, pa, e2, z⟩ := q
    subst e
    subst e2
    exact post h' ⟨sz, sc, mo, be, ts, us, lz, pr, fa, K, Mn, Mi, Sc, rw, tp, un, lf, pa, g, z⟩ c1 c2 ke
end YH

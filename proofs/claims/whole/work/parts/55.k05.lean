/-! the model: to a scale, to a precision -/
/-- whatever is left in the scratch -/
def Aft (Q : Option Value → zst → Prop) (t ln pr fa : Nat) (D pa K Mn : Nat → Nat) (Mi : Nat → Bool) (Sc : Nat → Int) : Prop := ∀ (sz : Nat) (sc : Int) (mo be : Bool) (ts us lz : Nat) (rw tp un lf : Nat → Nat), (∀ i, rw i < 10) → Q none (mS t ln sz sc mo be ts us lz pr fa D K Mn Mi Sc rw tp un lf pa)
/-- the outcome of a call with the result o, of the sign ng -/
def Res (Q : Option Value → zst → Prop) (R : Nat → zr) (to t ln pr fa : Nat) (D pa K Mn : Nat → Nat) (Mi : Nat → Bool) (Sc : Nat → Int) (ng : Bool) (o : Option (Nat × Int)) : Prop :=
  (∀ V s, fin o = some (V, s) → ∀ K' Mn' Mi' Sc', MR (zpu R to (ng && decide (V ≠ 0), V, s)) K' Mn' Mi' Sc' → Aft Q t ln pr fa D pa K' Mn' Mi' Sc') ∧ (fin o = none → Aft Q fa ln pr fa D pa K Mn Mi Sc)
theorem fin_some {V : Nat} {s : Int} : fin (some (V, s)) = if dg V ≤ 1000 ∧ -10000 ≤ s ∧ s ≤ 10000 then some (V, s) else none := rfl
theorem fin_none : fin none = none := rfl
theorem Res.congr {Q : Option Value → zst → Prop} {R : Nat → zr} {to t ln pr fa : Nat} {D pa K Mn : Nat → Nat} {Mi : Nat → Bool} {Sc : Nat → Int} {ng : Bool} {o o' : Option (Nat × Int)} (h : Res Q R to t ln pr fa D pa K Mn Mi Sc ng o) (e : fin o' = fin o) : Res Q R to t ln pr fa D pa K Mn Mi Sc ng o' := by
  unfold Res at h ⊢
  rw [e]
  exact h
theorem Res.imp {Q Q' : Option Value → zst → Prop} {R : Nat → zr} {to t ln pr fa : Nat} {D pa K Mn : Nat → Nat} {Mi : Nat → Bool} {Sc : Nat → Int} {ng : Bool} {o : Option (Nat × Int)} (h : Res Q R to t ln pr fa D pa K Mn Mi Sc ng o) (hi : ∀ m, Q none m → Q' none m) : Res Q' R to t ln pr fa D pa K Mn Mi Sc ng o :=
  ⟨fun V s e K' Mn' Mi' Sc' hm sz sc mo be ts us lz rw tp un lf q => hi _ (h.1 V s e K' Mn' Mi' Sc' hm sz sc mo be ts us lz rw tp un lf q), fun e sz sc mo be ts us lz rw tp un lf q => hi _ (h.2 e sz sc mo be ts us lz rw tp un lf q)⟩
theorem Res.sg {Q : Option Value → zst → Prop} {R : Nat → zr} {to t ln pr fa : Nat} {D pa K Mn : Nat → Nat} {Mi : Nat → Bool} {Sc : Nat → Int} {ng ng' : Bool} {o : Option (Nat × Int)} (h : Res Q R to t ln pr fa D pa K Mn Mi Sc ng o) (e : ∀ V s, fin o = some (V, s) → (ng && decide (V ≠ 0)) = (ng' && decide (V ≠ 0))) : Res Q R to t ln pr fa D pa K Mn Mi Sc ng' o :=
  ⟨fun V s e' K' Mn' Mi' Sc' hm => h.1 V s e' K' Mn' Mi' Sc' (by rw [e V s e']; exact hm), h.2⟩
def sp_ts (V : Nat) (s wish : Int) (md : Nat) (neg : Bool) : Option (Nat × Int) := (rnd md neg (cutV V s (wish + 1) / 10) (cutV V s (wish + 1) % 10) (cutL V s (wish + 1))).map (fun q => (q, wish))
theorem lI_1 (a : Int) : lI a - 1 = lI (a - 1) := lI_sub a 1
section KF
variable {l : Launch} {B : zd_B} {Q : Option Value → zst → Prop} {t ln sz : Nat} {sc : Int} {mo be : Bool} {ts us lz pr fa : Nat} {D K Mn : Nat → Nat} {Mi : Nat → Bool} {Sc : Nat → Int} {rw tp un lf pa : Nat → Nat}
theorem k_storeA (hG : zd_G B) (hl : l.stackTraces = false) {R : Nat → zr} (hR : ROk R) (hM : MR R K Mn Mi Sc) {to : Nat} (hr : to < 10) (hs : sz ≤ 4400) (hd : ∀ i, rw i < 10) (hsc : -4000000000000 < sc ∧ sc < 4000000000000)
    (hq : Res Q R to t ln pr fa D pa K Mn Mi Sc be (some (tv rw sz, sc))) : zm_M l B gM m_Mo_store [.ref 53, .int (nI to)] (mS t ln sz sc mo be ts us lz pr fa D K Mn Mi Sc rw tp un lf pa) Q := by
  obtain ⟨h1, h2⟩ := hq
  rw [fin_some] at h1 h2
  refine k_store hG hl hR hM hr hs hd hsc (fun c K' Mn' Mi' Sc' g' a1 a2 => h1 _ _ (if_pos c) K' Mn' Mi' Sc' a2 _ _ _ _ _ _ _ _ _ _ _ a1) (fun c g' a1 => h2 (if_neg c) _ _ _ _ _ _ _ _ _ _ _ a1)
theorem tv_cutpre {g : Nat → Nat} {n k : Nat} (hd : ∀ i, g i < 10) (hk : k ≤ n) : tv g k = tv g n / 10 ^ (n - k) := (tv_pre hk (fun i _ => hd i)).symm
theorem k_toPrecision (hG : zd_G B) (hl : l.stackTraces = false) {R : Nat → zr} (hR : ROk R) (hM : MR R K Mn Mi Sc) {to prec md : Nat} {wish : Int} (hr : to < 10) (hm : md < 8) (hp : 1 ≤ prec) (hp2 : prec ≤ 1000) (hs : sz ≤ 3300) (hd : ∀ i, rw i < 10) (hsc : -1000000 < sc ∧ sc < 1000000) (hwi : -1000000 < wish ∧ wish < 1000000)
    (h1 : tv rw sz ≠ 0 ∨ mo = false) (h2 : mo = false ∨ prec + 1 ≤ dg (tv rw sz))
    (hq : Res Q R to t ln pr fa D pa K Mn Mi Sc be (fitM prec wish md be (tv rw sz) sc mo)) : zm_M l B gM m_Mo_toPrecision [.ref 53, .int (nI prec), .long (lI wish), .int (nI md), .int (nI to)] (mS t ln sz sc mo be ts us lz pr fa D K Mn Mi Sc rw tp un lf pa) Q := by
  have hdz : dg (tv rw sz) ≤ 3300 := by
    by_cases e : sz = 0
    · subst e
      show dg 0 ≤ 3300
      rw [dg_0]; decide
    · exact Nat.le_trans (dgle (by omega) (tv_lt (fun i _ => hd i))) hs
  have hdp := dg_pos (tv rw sz)
  refine zm_go (okm_Mo_toPrecision hG hl) [32] 200 ?_
  conv => whnf
  refine k_trim hG hl (by omega) hd (fun g a1 a2 => ?_)
  have t0 := top0 a1 a2
  generalize hV : tv rw sz = V at *
  conv => whnf
  refine ⟨0, rfl, by omega, ?_⟩
  conv => whnf
  have h0 := a1 0
  by_cases ez : V = 0 ∧ mo = false
  · unfold fitM at hq
    rw [if_pos ez] at hq
    obtain ⟨e1, e2⟩ := ez
    subst e2
    refine ⟨fun z => absurd ((nI_z (by omega)).mpr (t0.mpr e1)) z, fun _ => ?_⟩
    conv => whnf
    refine ⟨fun z => absurd rfl z, fun _ => ?_⟩
    conv => whnf
    subst e1
    refine k_storeA hG hl hR hM hr (by omega) a1 (by omega) ?_
    rw [a2]
    refine (hq.sg (fun V s e => ?_)).imp (fun m hm => ?_)
    · rw [fin_some] at e
      split at e
      · cases e; simp
      · cases e
    · conv => whnf
      exact ⟨hm, trivial⟩
  · have hV0 : V ≠ 0 := fun q => by
      rcases h1 with h1 | h1
      · exact h1 q
      · exact ez ⟨q, h1⟩
    have hbe : (be && decide (V ≠ 0)) = be := by simp [hV0]
    rw [hbe]
    have htz := tz_lt_dg hV0
    have body : zm_W l B gM m_Mo_toPrecision 32 [some (.ref 53), some (.int (nI prec)), some (.long (lI wish)), none, some (.int (nI md)), some (.int (nI to)), none, none, none] [] (mS t ln (dg V) sc mo be ts us lz pr fa D K Mn Mi Sc (g) tp un lf pa) Q := by
      refine zm_go (okm_Mo_toPrecision hG hl) [116, 129] 200 ?_
      conv => whnf
      refine k_needed hG hl (by omega) a1 (by rw [a2]; exact hV0) ?_
      rw [a2]
      conv => whnf
      have lng : ∀ zn : Nat, zn ≤ 1000 → Res Q R to t ln pr fa D pa K Mn Mi Sc be (some (V / 10 ^ tz V * 10 ^ zn, sc - tz V + zn)) → zm_W l B gM m_Mo_toPrecision 116 [some (.ref 53), some (.int (nI prec)), some (.long (lI wish)), none, some (.int (nI md)), some (.int (nI to)), some (.int (nI (dg V - tz V))), some (.long (lI zn)), none] [] (mS t ln (dg V - tz V) (sc - tz V) mo be ts us lz pr fa D K Mn Mi Sc (g) tp un lf pa) Q := by
        intro zn hzn hres
        refine zm_go (okm_Mo_toPrecision hG hl) [] 200 ?_
        conv => whnf
        refine k_lengthen hG hl (by omega) a1 (by omega) (fun g2 b1 b2 => ?_)
        conv => whnf
        refine k_storeA hG hl hR hM hr (by omega) b1 (by omega) ?_
        rw [b2, tv_cutpre a1 (n := dg V) (by omega), a2, show dg V - (dg V - tz V) = tz V by omega]
        refine hres.imp (fun m hm => ?_)
        conv => whnf
        exact ⟨hm, trivial⟩
      unfold fitM at hq
      rw [if_neg ez] at hq
      have rnded : ¬ (mo = false ∧ dg V - tz V ≤ prec) → zm_W l B gM m_Mo_toPrecision 129 [some (.ref 53), some (.int (nI prec)), some (.long (lI wish)), none, some (.int (nI md)), some (.int (nI to)), some (.int (nI (dg V - tz V))), none, none] [] (mS t ln (dg V) sc mo be ts us lz pr fa D K Mn Mi Sc (g) tp un lf pa) Q := by
        intro hx
        rw [if_neg hx] at hq
        have hl2 : prec + 1 ≤ dg V := by
          rcases h2 with h2 | h2
          · have : ¬ dg V - tz V ≤ prec := fun q => hx ⟨h2, q⟩
            omega
          · exact h2
        have eq0 : tv g prec = V / 10 ^ (dg V - prec) := by rw [tv_cutpre a1 (n := dg V) (by omega), a2]
        have eg : gdd g (prec : Int) = V / 10 ^ (dg V - prec - 1) % 10 := by
          unfold gdd
          rw [if_pos (by omega)]
          show g prec = _
          have := tv_dig (g := g) (n := dg V) (k := prec) (by omega) (fun i _ => a1 i)
          rw [a2, show dg V - 1 - prec = dg V - prec - 1 by omega] at this
          exact this.symm
        have eb : bdd g (dg V) mo (prec : Int) = (mo || decide (V % 10 ^ (dg V - prec - 1) ≠ 0)) := by
          unfold bdd
          rw [a2, show dg V - ((prec : Int) + 1).toNat = dg V - prec - 1 by omega]
        refine zm_go (okm_Mo_toPrecision hG hl) [] 200 ?_
        conv => whnf
        rw [iI_nI prec]
        refine k_cut (k := (prec : Int)) hG hl (by omega) a1 (by omega) hm (by omega) (by omega) (fun e => ?_) (fun q n g2 e c1 c2 c3 => ?_)
        · rw [show (prec : Int).toNat = prec from rfl, eq0, eg, eb] at e
          rw [e] at hq
          conv => whnf
          refine ⟨fun _ => ?_, fun z => absurd rfl z⟩
          conv => whnf
          exact ⟨hq.2 rfl _ _ _ _ _ _ _ _ _ _ _ a1, trivial⟩
        · rw [show (prec : Int).toNat = prec from rfl, eq0, eg, eb] at e
          rw [e] at hq
          rw [show (prec : Int).toNat = prec from rfl] at c3
          have hq0 : 10 ^ (prec - 1) ≤ q := by
            have : V / 10 ^ (dg V - prec) ≤ q := by
              unfold rnd at e
              split at e
              · cases e; exact Nat.le_refl _
              · split at e
                · cases e
                · cases e; omega
            refine Nat.le_trans ?_ this
            have d := dg_div_pow (V := V) (k := dg V - prec) (by omega)
            have := dg_ge (V / 10 ^ (dg V - prec)) (Nat.pos_of_ne_zero fun q => by rw [q, dg_0] at d; have := dg_ge V (by omega); have : V / 10 ^ (dg V - prec) = 0 := q; have := Nat.div_pos (a := V) (b := 10 ^ (dg V - prec)) (Nat.le_trans (Nat.pow_le_pow_right (by decide) (by omega)) (dg_ge V (by omega))) (pow10_pos _); omega)
            rw [d, show dg V - (dg V - prec) - 1 = prec - 1 by omega] at this
            exact this
          have hdq : dg q ≤ prec ↔ n = prec := by
            rcases c3 with c3 | ⟨c3, c4⟩
            · refine ⟨fun _ => c3, fun _ => ?_⟩
              rw [← c2, c3]
              exact dgle (by omega) (tv_lt (fun i _ => c1 i))
            · refine ⟨fun h => ?_, fun h => by omega⟩
              have := dg_mul_pow (V := 1) (by decide) prec
              rw [Nat.one_mul, show dg 1 = 1 by unfold dg; rfl] at this
              rw [c4] at h
              omega
          conv => whnf
          refine ⟨fun z => absurd z (by decide), fun _ => ?_⟩
          conv => whnf
          by_cases en : n = prec
          · have hdq2 : dg q ≤ prec := hdq.mpr en
            subst en
            refine ⟨fun _ => ?_, fun z => absurd (Int32.le_refl _) z⟩
            conv => whnf
            refine k_storeA hG hl hR hM hr (by omega) c1 (by omega) ?_
            rw [c2]
            have hq' : Res Q R to t ln pr fa D pa K Mn Mi Sc be (some (q, sc - (dg V - n : Nat))) := by
              have h := hq
              dsimp only at h
              rwa [if_pos hdq2] at h
            rw [show sc - ((dg V : Int) - n) = sc - (dg V - n : Nat) by omega]
            refine hq'.imp (fun m hm => ?_)
            conv => whnf
            exact ⟨hm, trivial⟩
          · have en2 : n = prec + 1 := by rcases c3 with c3 | c3; exact absurd c3 en; exact c3.1
            have hdq2 : ¬ dg q ≤ prec := fun h => en (hdq.mp h)
            subst en2
            refine ⟨fun z => absurd z (nI_ge (by omega) (by omega)), fun _ => ?_⟩
            conv => whnf
            rw [nI_pred, lI_1]
            refine k_storeA hG hl hR hM hr (by omega) c1 (by omega) ?_
            have hq' : Res Q R to t ln pr fa D pa K Mn Mi Sc be (some (q / 10, sc - (dg V - prec : Nat) - 1)) := by
              have h := hq
              dsimp only at h
              rwa [if_neg hdq2] at h
            rw [tv_cutpre c1 (n := prec + 1) (by omega), c2, show prec + 1 - prec = 1 by omega, Nat.pow_one, show sc - ((dg V : Int) - prec) - 1 = sc - (dg V - prec : Nat) - 1 by omega]
            refine hq'.imp (fun m hm => ?_)
            conv => whnf
            exact ⟨hm, trivial⟩
      cases mo
      · refine ⟨fun z => absurd rfl z, fun _ => ?_⟩
        conv => whnf
        by_cases hx : dg V - tz V ≤ prec
        · refine ⟨fun z => absurd (Int32.not_le.mpr z) (fun q => q ((nI_leI (by omega) (by omega)).mpr hx)), fun _ => ?_⟩
          rw [if_pos ⟨rfl, hx⟩] at hq
          conv => whnf
          rw [nI_sub (a := dg V) (b := dg V - tz V) (by omega), show dg V - (dg V - tz V) = tz V by omega, iI_nI (tz V), iI_l ⟨by omega, by omega⟩, lI_sub, lI_sub]
          have er : iR ((prec - (dg V - tz V) : Nat) : Int) := ⟨by omega, by omega⟩
          have ep : (nI prec - nI (dg V - tz V)).toInt64 = lI ((prec - (dg V - tz V) : Nat) : Int) := by rw [nI_sub hx, iI_nI, iI_l er]
          refine ⟨fun z => ?_, fun z => ?_⟩
          · have z' : 0 ≤ wish - (sc - tz V) := (lI_le (a := 0) ⟨by decide, by decide⟩ ⟨by omega, by omega⟩).mp ((lg_cmp_ge _ _).mp z)
            conv => whnf
            rw [ep]
            refine ⟨fun z => ?_, fun z => ?_⟩
            · have z2 : wish - (sc - tz V) ≤ ((prec - (dg V - tz V) : Nat) : Int) := (lI_le ⟨by omega, by omega⟩ ⟨by omega, by omega⟩).mp ((lg_cmp_le _ _).mp z)
              conv => whnf
              refine ⟨?_, trivial⟩
              try dsimp only
              rw [show min (wish - (sc - tz V)).toNat (prec - (dg V - tz V)) = (wish - (sc - tz V)).toNat by omega] at hq
              have := lng (wish - (sc - tz V)).toNat (by omega) hq
              rw [show (((wish - (sc - tz V)).toNat : Nat) : Int) = wish - (sc - tz V) by omega] at this
              exact this
            · have z2 : ¬ wish - (sc - tz V) ≤ ((prec - (dg V - tz V) : Nat) : Int) := fun q => z ((lg_cmp_le _ _).mpr ((lI_le ⟨by omega, by omega⟩ ⟨by omega, by omega⟩).mpr q))
              conv => whnf
              refine ⟨?_, trivial⟩
              try dsimp only
              rw [show min (wish - (sc - tz V)).toNat (prec - (dg V - tz V)) = prec - (dg V - tz V) by omega] at hq
              have := lng (prec - (dg V - tz V)) (by omega) hq
              rw [ep]
              exact this
          · have z' : ¬ 0 ≤ wish - (sc - tz V) := fun q => z ((lg_cmp_ge _ _).mpr ((lI_le (a := 0) ⟨by decide, by decide⟩ ⟨by omega, by omega⟩).mpr q))
            conv => whnf
            refine ⟨?_, trivial⟩
            try dsimp only
            rw [show min (wish - (sc - tz V)).toNat (prec - (dg V - tz V)) = 0 by omega] at hq
            exact lng 0 (by omega) hq
        · refine ⟨fun _ => ?_, fun z => absurd (Int32.not_lt.mp z) (fun q => hx ((nI_leI (by omega) (by omega)).mp q))⟩
          refine ⟨?_, trivial⟩
          try dsimp only
          exact rnded (fun q => hx q.2)
      · refine ⟨fun _ => ?_, fun z => absurd z (by decide)⟩
        refine ⟨?_, trivial⟩
        try dsimp only
        exact rnded (fun q => absurd q.1 (by decide))
    refine ⟨fun z => ?_, fun z => ?_⟩
    · refine ⟨?_, trivial⟩
      try dsimp only
      exact body
    · have z' : V = 0 := t0.mp ((nI_z (by omega)).mp z)
      exact absurd z' hV0
end KF

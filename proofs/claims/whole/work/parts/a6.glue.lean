/-! the object and its rows as facts of the heap; the class's state, the model's state -/
def Gi (B : zd_B) (h : zd_H) (D : zg) (m : zst) : Prop := zd_Ob B h (zd_b0 B + D.1) D.2.1 (m.1.map (vm B)) ∧ ∀ (i : Nat) (n : Nat × Nat) (f : Nat → Int32), D.2.2[i]? = some n → m.2[i]? = some f → zd_Ai B h (zd_b0 B + D.1 + 1 + i) n.1 n.2 f
def gS (B : zd_B) (D : zg) : Nat → Prop := fun q => zd_b0 B + D.1 ≤ q ∧ q ≤ zd_b0 B + D.1 + D.2.2.length
theorem Gi.kept {B : zd_B} {h h' : zd_H} {D : zg} {m : zst} {S : Nat → Prop} {d : Nat} (g : Gi B h D m) (f : Fg B h h' S d) (hS : ∀ q, gS B D q → ¬ S q) : Gi B h' D m := by
  refine ⟨f.ob g.1 (hS _ ⟨Nat.le_refl _, by omega⟩), fun i n x e1 e2 => f.ai (g.2 i n x e1 e2) (hS _ ⟨by omega, ?_⟩)⟩
  have := (List.getElem?_eq_some_iff.mp e1).1
  omega
theorem Gi.mhe {B : zd_B} {h : zd_H} {D : zg} {m : zst} (g : Gi B h D m) : mh B D h m = h := by
  have e : (mh B D h m).2.2 = h.2.2 := by
    funext q
    show (if q = zd_b0 B + D.1 then (.inl (D.2.1, m.1.map (vm B)) : zd_C) else if zd_b0 B + D.1 + 1 ≤ q then (match D.2.2[q - (zd_b0 B + D.1 + 1)]?, m.2[q - (zd_b0 B + D.1 + 1)]? with
      | some n, some f => .inr (.inl (n.1, n.2, f))
      | _, _ => h.2.2 q) else h.2.2 q) = h.2.2 q
    by_cases h1 : q = zd_b0 B + D.1
    · rw [if_pos h1, h1]
      exact g.1.2.symm
    · rw [if_neg h1]
      by_cases h2 : zd_b0 B + D.1 + 1 ≤ q
      · rw [if_pos h2]
        split
        · rename_i n f e1 e2
          have := (g.2 _ n f e1 e2).2
          rw [show zd_b0 B + D.1 + 1 + (q - (zd_b0 B + D.1 + 1)) = q by omega] at this
          exact this.symm
        · rfl
      · rw [if_neg h2]
  show (h.1, h.2.1, (mh B D h m).2.2) = h
  rw [e]
theorem Gi.of_mh {B : zd_B} {h : zd_H} {D : zg} {m : zst} (hc : D.1 + D.2.2.length + 1 ≤ h.1) : Gi B (mh B D h m) D m := by
  refine ⟨⟨⟨by omega, by show _ < _ + h.1; omega⟩, if_pos rfl⟩, fun i n f e1 e2 => ?_⟩
  have hi := (List.getElem?_eq_some_iff.mp e1).1
  refine ⟨⟨by omega, by show _ < _ + h.1; omega⟩, ?_⟩
  show (if _ = _ then _ else if _ then _ else _) = _
  rw [if_neg (by omega), if_pos (by omega), show zd_b0 B + D.1 + 1 + i - (zd_b0 B + D.1 + 1) = i by omega, e1, e2]
theorem mh_fg {B : zd_B} {h : zd_H} {D : zg} {m : zst} : Fg B h (mh B D h m) (gS B D) 0 := by
  refine ⟨rfl, rfl, fun q _ hn => ?_⟩
  show (if q = zd_b0 B + D.1 then (.inl (D.2.1, m.1.map (vm B)) : zd_C) else if zd_b0 B + D.1 + 1 ≤ q then (match D.2.2[q - (zd_b0 B + D.1 + 1)]?, m.2[q - (zd_b0 B + D.1 + 1)]? with
      | some n, some f => .inr (.inl (n.1, n.2, f))
      | _, _ => h.2.2 q) else h.2.2 q) = h.2.2 q
  by_cases h1 : q = zd_b0 B + D.1
  · exact absurd ⟨by omega, by omega⟩ hn
  · rw [if_neg h1]
    by_cases h2 : zd_b0 B + D.1 + 1 ≤ q
    · rw [if_pos h2]
      split
      · rename_i n f e1 e2
        have hi := (List.getElem?_eq_some_iff.mp e1).1
        exact absurd ⟨by omega, by omega⟩ hn
      · rfl
    · rw [if_neg h2]
/-- a method of the object and its rows, called from outside -/
theorem gm_call {l : Launch} {B : zd_B} {D : zg} {y : zd_Y} {as : List Value} {h : zd_H} {m : zst} {Q : Option Value → zst → Prop} {Q' : zd_O → zd_H → Prop} (hM : zm_M l B D y as m Q) (g : Gi B h D m) (hc : D.1 + D.2.2.length + 1 ≤ h.1) (post : ∀ v m' h', Q v m' → Gi B h' D m' → Fg B h h' (gS B D) 0 → Q' (.inl (v.map (vm B))) h') : zd_M l B y (as.map (vm B)) h Q' := by
  have := zm_call hM (h0 := h) hc
  rw [g.mhe] at this
  refine zd_W.post this (fun x h' => ?_)
  rintro ⟨v, m', e1, e2, q⟩
  subst e1
  subst e2
  exact post v m' _ q (Gi.of_mh hc) mh_fg
/-- the class's state: registers, draft, text -/
def Cw (B : zd_B) (h : zd_H) (R : Nat → zr) (D : Nat → Nat) (ln : Nat) (T : List Nat) (k cap : Nat) : Prop :=
  (∃ r v o c, xi B h (R, r, v, o, c)) ∧ (∃ ng fd eo dn df ex, Gi B h gD (dS D ln ng fd eo dn df ex)) ∧ Tx B h k cap T ∧ ((k = 35 ∧ cap = 1100) ∨ (64 < k ∧ cap = 11020))
/-- the cells of the class; k: where the row of the text stands -/
def cS (B : zd_B) (k : Nat) : Nat → Prop := fun q => (zd_b0 B ≤ q ∧ q ≤ zd_b0 B + 52) ∨ q = zd_b0 B + k
/-- outside of these nothing is changed, from h.1 on cells may be new -/
def Ke (B : zd_B) (h h' : zd_H) (S : Nat → Prop) : Prop := h.1 ≤ h'.1 ∧ ∀ a, a < zd_b0 B + h.1 → ¬ S a → h'.2.2 a = h.2.2 a
theorem Fg.ke {B : zd_B} {h h' : zd_H} {S S' : Nat → Prop} {d : Nat} (f : Fg B h h' S d) (hs : ∀ q, S q → S' q) : Ke B h h' S' := ⟨by rw [f.1]; omega, fun a ha hn => f.2.2 a ha (fun z => hn (hs a z))⟩
/-- the same without the count of the places -/
theorem Ke.fg {B : zd_B} {h h' : zd_H} {S : Nat → Prop} (f : Ke B h h' S) : Fg B h (h'.1, h.2.1 + 6 * (h'.1 - h.1), h'.2.2) S (h'.1 - h.1) := ⟨by show h'.1 = _; have := f.1; omega, rfl, f.2⟩
theorem Ke.gi {B : zd_B} {h h' : zd_H} {S : Nat → Prop} {D : zg} {m : zst} (f : Ke B h h' S) (g : Gi B h D m) (hS : ∀ q, gS B D q → ¬ S q) : Gi B h' D m := by
  have := g.kept f.fg hS
  exact this
theorem Ke.xie {B : zd_B} {h h' : zd_H} {S : Nat → Prop} {a : zx} (f : Ke B h h' S) (x : xi B h a) (hS : ∀ k, k < 53 → ¬ S (zd_b0 B + k)) : xi B h' a := by
  have := x.kept f.fg hS
  exact this
theorem Ke.tx {B : zd_B} {h h' : zd_H} {S : Nat → Prop} {k cap : Nat} {L : List Nat} (f : Ke B h h' S) (t : Tx B h k cap L) (h0 : ¬ S (zd_b0 B + 34)) (h1 : ¬ S (zd_b0 B + k)) : Tx B h' k cap L := by
  have := t.kept f.fg h0 h1
  exact this
theorem Ke.al {B : zd_B} {h h' : zd_H} {S : Nat → Prop} {a n : Nat} {x : Nat → Int64} (f : Ke B h h' S) (ho : zd_Al B h a n x) (hn : ¬ S a) : zd_Al B h' a n x := ⟨⟨ho.1.1, by have := f.1; have := ho.1.2; omega⟩, (f.2 a ho.1.2 hn).trans ho.2⟩
theorem Ke.cw {B : zd_B} {h h' : zd_H} {S : Nat → Prop} {R : Nat → zr} {D : Nat → Nat} {ln : Nat} {T : List Nat} {k cap : Nat} (f : Ke B h h' S) (w : Cw B h R D ln T k cap) (hS : ∀ q, cS B k q → ¬ S q) : Cw B h' R D ln T k cap := by
  obtain ⟨⟨r, v, o, c, x⟩, ⟨ng, fd, eo, dn, df, ex, g⟩, t, e⟩ := w
  refine ⟨⟨r, v, o, c, f.xie x (fun j hj => hS _ (Or.inl ⟨by omega, by omega⟩))⟩, ⟨ng, fd, eo, dn, df, ex, f.gi g (fun q hq => hS q (Or.inl ⟨Nat.le_trans (by omega) hq.1, Nat.le_trans hq.2 (by show zd_b0 B + 32 + 1 ≤ _; omega)⟩))⟩, f.tx t (hS _ (Or.inl ⟨by omega, by omega⟩)) (hS _ (Or.inr rfl)), e⟩
/-- the model's state: thrown, registers, draft, text -/
def Mw (B : zd_B) (h : zd_H) (t : Nat) (R : Nat → zr) (D : Nat → Nat) (ln : Nat) (T : List Nat) : Prop :=
  ∃ (sz : Nat) (sc : Int) (mo be : Bool) (ts us lz pr fa : Nat) (K Mn : Nat → Nat) (Mi : Nat → Bool) (Sc : Nat → Int) (rw tp un lf pa : Nat → Nat), Gi B h gM (mS t ln sz sc mo be ts us lz pr fa D K Mn Mi Sc rw tp un lf pa) ∧ MR R K Mn Mi Sc ∧ PT pa pr T ∧ ∀ i, rw i < 10
theorem Ke.mw {B : zd_B} {h h' : zd_H} {S : Nat → Prop} {t : Nat} {R : Nat → zr} {D : Nat → Nat} {ln : Nat} {T : List Nat} (f : Ke B h h' S) (w : Mw B h t R D ln T) (hS : ∀ q, gS B gM q → ¬ S q) : Mw B h' t R D ln T := by
  obtain ⟨sz, sc, mo, be, ts, us, lz, pr, fa, K, Mn, Mi, Sc, rw, tp, un, lf, pa, g, z⟩ := w
  exact ⟨sz, sc, mo, be, ts, us, lz, pr, fa, K, Mn, Mi, Sc, rw, tp, un, lf, pa, f.gi g hS, z⟩
theorem Cw.ob {B : zd_B} {h : zd_H} {R : Nat → zr} {D : Nat → Nat} {ln : Nat} {T : List Nat} {k cap : Nat} (w : Cw B h R D ln T k cap) : ∃ fs, zd_Ob B h (zd_b0 B + 0) 0 fs := by
  obtain ⟨⟨r, v, o, c, x⟩, -⟩ := w
  exact ⟨_, x.1.1⟩
theorem Mw.ob {B : zd_B} {h : zd_H} {t : Nat} {R : Nat → zr} {D : Nat → Nat} {ln : Nat} {T : List Nat} (w : Mw B h t R D ln T) : ∃ fs, zd_Ob B h (zd_b0 B + 53) 8 fs := by
  obtain ⟨sz, sc, mo, be, ts, us, lz, pr, fa, K, Mn, Mi, Sc, rw, tp, un, lf, pa, g, z⟩ := w
  exact ⟨_, g.1⟩
/-- what a call on registers comes to: 1 where the arguments are bad, 2 where it fails, 0 -/
def gen (R : Nat → zr) (bad zero : Prop) [Decidable bad] [Decidable zero] (T : Nat) (ng : Bool) (o : Option (Nat × Int)) : Nat × (Nat → zr) :=
  if bad then (1, R) else if zero then (2, R) else match fin o with
  | some q => (0, zpu R T (ng && decide (q.1 ≠ 0), q.1, q.2))
  | none => (2, R)
/-- how the class says so -/
def Qx (G : Nat × (Nat → zr)) : Option Value ⊕ Nat → zx → Prop := fun o a => (o = .inl none ∧ G = (0, a.1)) ∨ (o = .inr 9 ∧ G = (1, a.1)) ∨ (o = .inr 11 ∧ G = (2, a.1))
theorem gen_bad {R : Nat → zr} {bad zero : Prop} [Decidable bad] [Decidable zero] {T : Nat} {ng : Bool} {o : Option (Nat × Int)} (h : bad) : gen R bad zero T ng o = (1, R) := if_pos h
theorem gen_zero {R : Nat → zr} {bad zero : Prop} [Decidable bad] [Decidable zero] {T : Nat} {ng : Bool} {o : Option (Nat × Int)} (h : ¬ bad) (hz : zero) : gen R bad zero T ng o = (2, R) := by
  unfold gen
  rw [if_neg h, if_pos hz]
theorem gen_some {R : Nat → zr} {bad zero : Prop} [Decidable bad] [Decidable zero] {T : Nat} {ng : Bool} {o : Option (Nat × Int)} (h : ¬ bad) (hz : ¬ zero) {V : Nat} {s : Int} (e : fin o = some (V, s)) : gen R bad zero T ng o = (0, zpu R T (ng && decide (V ≠ 0), V, s)) := by
  unfold gen
  rw [if_neg h, if_neg hz, e]
theorem gen_none {R : Nat → zr} {bad zero : Prop} [Decidable bad] [Decidable zero] {T : Nat} {ng : Bool} {o : Option (Nat × Int)} (h : ¬ bad) (hz : ¬ zero) (e : fin o = none) : gen R bad zero T ng o = (2, R) := by
  unfold gen
  rw [if_neg h, if_neg hz, e]
theorem cres_gen {R : Nat → zr} {bad zero : Prop} [Decidable bad] [Decidable zero] {T : Nat} {ng : Bool} {o : Option (Nat × Int)} (h : ¬ bad) (hz : ¬ zero) : Cres (Qx (gen R bad zero T ng o)) R T ng o :=
  ⟨fun V s e r v o' c => Or.inl ⟨rfl, gen_some h hz e⟩, fun e r v o' c => Or.inr (Or.inr ⟨rfl, gen_none h hz e⟩)⟩
theorem fin_ok {o : Option (Nat × Int)} {V : Nat} {s : Int} (h : fin o = some (V, s)) : dg V ≤ 1000 ∧ -10000 ≤ s ∧ s ≤ 10000 := by
  unfold fin at h
  cases o with
  | none => cases h
  | some r =>
    rw [Option.bind_some] at h
    split at h
    · cases h; assumption
    · cases h
theorem zpu_ROk {R : Nat → zr} (hR : ROk R) {T V : Nat} {s : Int} {ng : Bool} (h : dg V ≤ 1000 ∧ -10000 ≤ s ∧ s ≤ 10000) : ROk (zpu R T (ng && decide (V ≠ 0), V, s)) := by
  intro r hr
  by_cases e : r = T
  · subst e
    rw [zpu_s]
    refine ⟨h.1, h.2.1, h.2.2, fun q => ?_⟩
    have q : (ng && decide (V ≠ 0)) = true := q
    rw [Bool.and_eq_true] at q
    exact of_decide_eq_true q.2
  · rw [zpu_n e]
    exact hR r hr
theorem gen_ROk {R : Nat → zr} (hR : ROk R) {bad zero : Prop} [Decidable bad] [Decidable zero] {T : Nat} {ng : Bool} {o : Option (Nat × Int)} : ROk (gen R bad zero T ng o).2 := by
  unfold gen
  split
  · exact hR
  · split
    · exact hR
    · split
      · rename_i q e
        exact zpu_ROk hR (fin_ok e)
      · exact hR
theorem gen_t {R : Nat → zr} {bad zero : Prop} [Decidable bad] [Decidable zero] {T : Nat} {ng : Bool} {o : Option (Nat × Int)} : (gen R bad zero T ng o).1 < 3 := by
  unfold gen
  split
  · show 1 < 3; decide
  · split
    · show 2 < 3; decide
    · split
      · show 0 < 3; decide
      · show 2 < 3; decide
/-- a call of the class on its registers -/
theorem cw_zx {l : Launch} {B : zd_B} {y : zd_Y} {as : List Value} {h : zd_H} {Q : Option Value ⊕ Nat → zx → Prop} {Q' : zd_O → zd_H → Prop} {R : Nat → zr} {D : Nat → Nat} {ln : Nat} {T : List Nat} {k cap : Nat} (hz : ∀ r v o c, zx_M l B y as (R, r, v, o, c) Q) (w : Cw B h R D ln T k cap) (rm : Rm h)
    (p1 : ∀ v a h', Q (.inl v) a → Cw B h' a.1 D ln T k cap → h'.1 = h.1 → h'.2.1 = h.2.1 → Ke B h h' (xs B) → Q' (.inl (v.map (vm B))) h')
    (p2 : ∀ c a h', Q (.inr c) a → Cw B h' a.1 D ln T k cap → h'.1 = h.1 + 1 → h'.2.1 = h.2.1 + 6 → Ke B h h' (xs B) → Q' (.inr (zd_b0 B + h.1, c)) h') : zd_M l B y (as.map (vm B)) h Q' := by
  obtain ⟨⟨r, v, o, c, x⟩, ⟨ng, fd, eo, dn, df, ex, g⟩, t, e⟩ := w
  refine zd_W.post (zx_call (hz r v o c) rm x) (fun z h' => ?_)
  rintro ⟨o', a, xa, q, hm⟩
  have key : ∀ d, Fg B h h' (xs B) d → Cw B h' a.1 D ln T k cap ∧ Ke B h h' (xs B) := fun d f => by
    have ke : Ke B h h' (xs B) := f.ke (fun _ z => z)
    refine ⟨⟨⟨a.2.1, a.2.2.1, a.2.2.2.1, a.2.2.2.2, xa⟩, ⟨ng, fd, eo, dn, df, ex, ke.gi g (fun q hq z => ?_)⟩, ke.tx t (fun z => ?_) (fun z => ?_), e⟩, ke⟩
    · have h1 : zd_b0 B + 32 ≤ q := hq.1
      have h2 : q ≤ zd_b0 B + 32 + 1 := hq.2
      rcases z with z | z <;> omega
    · rcases z with z | z <;> omega
    · rcases z with z | z <;> omega
  cases o' with
  | inl v =>
    obtain ⟨e1, f⟩ := hm
    subst e1
    obtain ⟨k1, k2⟩ := key 0 f
    exact p1 v a h' q k1 f.1 f.2.1 k2
  | inr c =>
    obtain ⟨e1, f, -⟩ := hm
    subst e1
    obtain ⟨k1, k2⟩ := key 1 f
    exact p2 c a h' q k1 f.1 f.2.1 k2
/-- a call of the draft's methods -/
theorem cw_dr {l : Launch} {B : zd_B} {y : zd_Y} {as : List Value} {h : zd_H} {Q : Option Value → zst → Prop} {Q' : zd_O → zd_H → Prop} {D : Nat → Nat} {ln : Nat} {ng : Bool} {fd eo dn df : Nat} {ex : Int} (g : Gi B h gD (dS D ln ng fd eo dn df ex)) (hM : zm_M l B gD y as (dS D ln ng fd eo dn df ex) Q) (hc : 34 ≤ h.1) (post : ∀ v m' h', Q v m' → Gi B h' gD m' → Fg B h h' (gS B gD) 0 → Q' (.inl (v.map (vm B))) h') : zd_M l B y (as.map (vm B)) h Q' := gm_call hM g hc post

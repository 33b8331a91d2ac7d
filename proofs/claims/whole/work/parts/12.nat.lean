/-! Natural: contracts -/
theorem zd_set_s {h : zd_H} {a : Nat} {c : zd_C} : (zd_set h a c).2.2 a = c := if_pos rfl
theorem zd_set_n {h : zd_H} {a q : Nat} {c : zd_C} (e : q ≠ a) : (zd_set h a c).2.2 q = h.2.2 q := if_neg e
theorem zd_push_n {h : zd_H} {a q n : Nat} {c : zd_C} (e : q ≠ a) : (zd_push h a c n).2.2 q = h.2.2 q := if_neg e
/-- from h to h' only cells of S have changed; d exceptions are new -/
def Fg (B : zd_B) (h h' : zd_H) (S : Nat → Prop) (d : Nat) : Prop := h'.1 = h.1 + d ∧ h'.2.1 = h.2.1 + 6 * d ∧ ∀ a, a < zd_b0 B + h.1 → ¬ S a → h'.2.2 a = h.2.2 a
theorem Fg.rf {B : zd_B} {h : zd_H} {S : Nat → Prop} : Fg B h h S 0 := ⟨rfl, rfl, fun _ _ _ => rfl⟩
theorem Fg.tr {B : zd_B} {h h1 h2 : zd_H} {S : Nat → Prop} {d1 d2 : Nat} (a : Fg B h h1 S d1) (b : Fg B h1 h2 S d2) : Fg B h h2 S (d1 + d2) :=
  ⟨by rw [b.1, a.1]; omega, by rw [b.2.1, a.2.1]; omega, fun q hq hs => (b.2.2 q (by rw [a.1]; omega) hs).trans (a.2.2 q hq hs)⟩
theorem Fg.mono {B : zd_B} {h h1 : zd_H} {S S' : Nat → Prop} {d : Nat} (a : Fg B h h1 S d) (hs : ∀ q, S q → S' q) : Fg B h h1 S' d := ⟨a.1, a.2.1, fun q hq hn => a.2.2 q hq (fun z => hn (hs q z))⟩
theorem Fg.set {B : zd_B} {h : zd_H} {S : Nat → Prop} {a : Nat} {c : zd_C} (ha : S a) : Fg B h (zd_set h a c) S 0 := ⟨rfl, rfl, fun q _ hn => zd_set_n (fun e => hn (e ▸ ha))⟩
theorem Fg.ob {B : zd_B} {h h' : zd_H} {S : Nat → Prop} {d a ci : Nat} {fs : List Value} (f : Fg B h h' S d) (ho : zd_Ob B h a ci fs) (hn : ¬ S a) : zd_Ob B h' a ci fs := ⟨⟨ho.1.1, by rw [f.1]; have := ho.1.2; omega⟩, (f.2.2 a ho.1.2 hn).trans ho.2⟩
theorem Fg.ai {B : zd_B} {h h' : zd_H} {S : Nat → Prop} {d a k n : Nat} {x : Nat → Int32} (f : Fg B h h' S d) (ho : zd_Ai B h a k n x) (hn : ¬ S a) : zd_Ai B h' a k n x := ⟨⟨ho.1.1, by rw [f.1]; have := ho.1.2; omega⟩, (f.2.2 a ho.1.2 hn).trans ho.2⟩
/-- nothing -/
def E0 : Nat → Prop := fun _ => False
/-- the exception that was thrown: the last cell of h', of class ci -/
def Fx (B : zd_B) (h h' : zd_H) (S : Nat → Prop) (ci : Nat) : Prop := Fg B h h' S 1 ∧ h'.2.2 (zd_b0 B + h.1) = .inl (ci, [])
theorem Fx.push {B : zd_B} {h : zd_H} {S : Nat → Prop} {ci : Nat} : Fx B h (zd_push h (zd_b0 B + h.1) (.inl (ci, [])) 6) S ci := ⟨⟨rfl, rfl, fun q hq _ => zd_push_n (by omega)⟩, if_pos rfl⟩
theorem Fx.after {B : zd_B} {h h1 h2 : zd_H} {S : Nat → Prop} {ci : Nat} (a : Fg B h h1 S 0) (b : Fx B h1 h2 S ci) : Fx B h h2 S ci := ⟨by have := a.tr b.1; simpa using this, by rw [← b.2, a.1]; rfl⟩
theorem Fx.mono {B : zd_B} {h h1 : zd_H} {S S' : Nat → Prop} {ci : Nat} (a : Fx B h h1 S ci) (hs : ∀ q, S q → S' q) : Fx B h h1 S' ci := ⟨a.1.mono hs, a.2⟩
/-- room for one exception more -/
def Rm (h : zd_H) : Prop := h.1 + 1 ≤ zd_CB ∧ h.2.1 + 6 ≤ zd_SB
theorem Rm.kept {B : zd_B} {h h' : zd_H} {S : Nat → Prop} (r : Rm h) (f : Fg B h h' S 0) : Rm h' := ⟨by rw [f.1]; exact r.1, by rw [f.2.1]; exact r.2⟩
/-- a Natural at the cell k: room for R limbs, the limbs g, n of them -/
def Nt (B : zd_B) (h : zd_H) (k R : Nat) (g : Nat → Nat) (n : Nat) : Prop := zd_Ob B h (zd_b0 B + k) 4 [.ref (zd_b0 B + k + 1), .int (nI n)] ∧ zd_Ai B h (zd_b0 B + k + 1) 0 R (fun i => nI (g i)) ∧ n ≤ R ∧ R < 1000 ∧ ∀ i, g i < 1000000000
def NS (B : zd_B) (k : Nat) : Nat → Prop := fun a => a = zd_b0 B + k ∨ a = zd_b0 B + k + 1
theorem Nt.kept {B : zd_B} {h h' : zd_H} {S : Nat → Prop} {d k R n : Nat} {g : Nat → Nat} (hN : Nt B h k R g n) (f : Fg B h h' S d) (h0 : ¬ S (zd_b0 B + k)) (h1 : ¬ S (zd_b0 B + k + 1)) : Nt B h' k R g n := ⟨f.ob hN.1 h0, f.ai hN.2.1 h1, hN.2.2⟩
theorem Nt.apart {B : zd_B} {h : zd_H} {k R n k' R' n' : Nat} {g g' : Nat → Nat} (a : Nt B h k R g n) (b : Nt B h k' R' g' n') (e : k ≠ k') : ¬ NS B k (zd_b0 B + k') ∧ ¬ NS B k (zd_b0 B + k' + 1) := by
  have h1 : k + 1 ≠ k' := fun q => by
    have x := a.2.1.2
    have z := b.1.2
    rw [← q, show zd_b0 B + (k + 1) = zd_b0 B + k + 1 by omega, x] at z
    cases z
  have h2 : k' + 1 ≠ k := fun q => by
    have x := b.2.1.2
    have z := a.1.2
    rw [← q, show zd_b0 B + (k' + 1) = zd_b0 B + k' + 1 by omega, x] at z
    cases z
  exact ⟨fun q => by rcases q with q | q <;> omega, fun q => by rcases q with q | q <;> omega⟩
theorem Nt.size {B : zd_B} {h : zd_H} {k R n n' : Nat} {g : Nat → Nat} (hN : Nt B h k R g n) (hn : n' ≤ R) : Nt B (zd_set h (zd_b0 B + k) (.inl (4, [.ref (zd_b0 B + k + 1), .int (nI n')]))) k R g n' :=
  ⟨⟨hN.1.1, zd_set_s⟩, ⟨hN.2.1.1, by rw [zd_set_n (by omega)]; exact hN.2.1.2⟩, hn, hN.2.2.2⟩
theorem Nt.put {B : zd_B} {h : zd_H} {k R n i v : Nat} {g : Nat → Nat} (hN : Nt B h k R g n) (hv : v < 1000000000) : Nt B (zd_set h (zd_b0 B + k + 1) (.inr (.inl (0, R, upd (fun i => nI (g i)) i (nI v))))) k R (zu g i v) n :=
  ⟨⟨hN.1.1, by rw [zd_set_n (by omega)]; exact hN.1.2⟩, ⟨hN.2.1.1, by rw [zd_set_s, upd_nI]⟩, hN.2.2.1, hN.2.2.2.1, fun j => by unfold zu; split; exact hv; exact hN.2.2.2.2 j⟩
section NA
variable {l : Launch} {B : zd_B} {h : zd_H} {Q : zd_O → zd_H → Prop}
theorem c_Na_isZero (hG : zd_G B) (hl : l.stackTraces = false) {k R n : Nat} {g : Nat → Nat} (hN : Nt B h k R g n) (hq : Q (.inl (some (.int (if n = 0 then 1 else 0)))) h) : zd_M l B m_Na_isZero [.ref (zd_b0 B + k)] h Q := by
  refine zd_go (ok_Na_isZero hG hl) [] 30 ?_
  conv => whnf
  refine ⟨_, hN.1, ?_⟩
  conv => whnf
  refine ⟨fun hc => ?_, fun hc => ?_⟩
  · conv => whnf
    refine ⟨rfl, ?_, trivial⟩
    rw [if_neg (fun e => hc (by rw [e]; exact nI_0))] at hq
    exact hq
  · conv => whnf
    refine ⟨rfl, ?_, trivial⟩
    rw [if_pos ((nI_eq (by have := hN.2.2; omega) (by omega)).mp (hc.trans nI_0.symm))] at hq
    exact hq
theorem c_Na_claim (hG : zd_G B) (hl : l.stackTraces = false) {k R n w : Nat} {g : Nat → Nat} (hN : Nt B h k R g n) (hw : w < 2 ^ 31) (hr : Rm h) (hok : ∀ h', w ≤ R → Fg B h h' (NS B k) 0 → Nt B h' k R g w → Q (.inl none) h') (hth : ∀ h', R < w → Fx B h h' E0 11 → Q (.inr (zd_b0 B + h.1, 11)) h') : zd_M l B m_Na_claim [.ref (zd_b0 B + k), .int (nI w)] h Q := by
  have hR := hN.2.2.2.1
  refine zd_go (ok_Na_claim hG hl) [] 30 ?_
  conv => whnf
  refine ⟨_, hN.1, ?_⟩
  conv => whnf
  refine ⟨R, Or.inl ⟨0, _, hN.2.1, by omega⟩, ?_⟩
  conv => whnf
  refine ⟨fun hc => ?_, fun hc => ?_⟩
  · rw [nI_leI hw (by omega)] at hc
    conv => whnf
    refine ⟨_, hN.1, Nat.lt_succ_self 1, ⟨rfl, rfl⟩, ?_⟩
    conv => whnf
    exact ⟨hok _ hc (Fg.set (Or.inl rfl)) (hN.size hc), trivial⟩
  · rw [nI_leI hw (by omega)] at hc
    conv => whnf
    exact ⟨⟨Nat.zero_le _, hr.1, hr.2⟩, hth _ (by omega) Fx.push, trivial⟩
/-- the loop of trim -/
theorem w_Na_trim (hG : zd_G B) (hl : l.stackTraces = false) {k R : Nat} {g : Nat → Nat} : ∀ (n : Nat) (h : zd_H), Nt B h k R g n → (∀ n' h', n' ≤ n → zv 1000000000 g n' = zv 1000000000 g n → (n' = 0 ∨ g (n' - 1) ≠ 0) → Fg B h h' (NS B k) 0 → Nt B h' k R g n' → Q (.inl none) h') → zd_W l B m_Na_trim 0 [some (.ref (zd_b0 B + k))] [] h Q := by
  intro n
  induction n with
  | zero =>
    intro h hN hq
    refine zd_go (ok_Na_trim hG hl) [] 30 ?_
    conv => whnf
    refine ⟨_, hN.1, ?_⟩
    conv => whnf
    refine ⟨fun hc => ?_, fun hc => ?_⟩
    · conv => whnf
      exact ⟨hq 0 h (Nat.le_refl _) rfl (Or.inl rfl) Fg.rf hN, trivial⟩
    · exact absurd (by rw [nI_0]; exact Int32.le_refl 0) hc
  | succ n ih =>
    intro h hN hq
    have hR := hN.2.2.2.1
    have hn := hN.2.2.1
    refine zd_go (ok_Na_trim hG hl) [0] 30 ?_
    conv => whnf
    refine ⟨_, hN.1, ?_⟩
    conv => whnf
    refine ⟨fun hc => absurd hc (nI_nle (by omega) (by omega)), fun hc => ?_⟩
    conv => whnf
    refine ⟨_, hN.1, ?_⟩
    conv => whnf
    refine ⟨_, hN.1, ?_⟩
    conv => whnf
    refine ⟨R, _, Or.inl hN.2.1, by rw [nI_pred]; exact vp_in_nI (by omega) (by omega), ?_⟩
    rw [nI_pred, nI_clamp (by omega)]
    conv => whnf
    refine ⟨fun hz => ?_, fun hz => ?_⟩
    · conv => whnf
      exact ⟨hq (n + 1) h (Nat.le_refl _) rfl (Or.inr (fun e => hz (by show nI (g n) = 0; rw [show g n = 0 from e]; exact nI_0))) Fg.rf hN, trivial⟩
    · have hg : g n = 0 := (nI_eq (by have := hN.2.2.2.2 n; omega) (by omega)).mp (hz.trans nI_0.symm)
      conv => whnf
      refine ⟨_, hN.1, ?_⟩
      conv => whnf
      refine ⟨_, hN.1, Nat.lt_succ_self 1, ⟨rfl, rfl⟩, ?_⟩
      rw [nI_pred]
      conv => whnf
      refine ⟨ih _ (hN.size (by omega)) (fun n' h' a1 a2 a3 a4 a5 => hq n' h' (by omega) (by rw [a2]; show _ = zv 1000000000 g n + g n * _; rw [hg]; omega) a3 ?_ a5), trivial⟩
      have := (Fg.set (h := h) (B := B) (c := .inl (4, [.ref (zd_b0 B + k + 1), .int (nI n)])) (S := NS B k) (Or.inl rfl)).tr a4
      simpa using this
theorem c_Na_trim (hG : zd_G B) (hl : l.stackTraces = false) {k R n : Nat} {g : Nat → Nat} (hN : Nt B h k R g n) (hq : ∀ n' h', n' ≤ n → zv 1000000000 g n' = zv 1000000000 g n → (n' = 0 ∨ g (n' - 1) ≠ 0) → Fg B h h' (NS B k) 0 → Nt B h' k R g n' → Q (.inl none) h') : zd_M l B m_Na_trim [.ref (zd_b0 B + k)] h Q := w_Na_trim hG hl n h hN hq
end NA

/-! the constructors of the parts -/
/-- d cells and n places more; what stood before and is not in S stands -/
def Gw (B : zd_B) (h h' : zd_H) (S : Nat → Prop) (d n : Nat) : Prop := h'.1 = h.1 + d ∧ h'.2.1 = h.2.1 + n ∧ ∀ a, a < zd_b0 B + h.1 → ¬ S a → h'.2.2 a = h.2.2 a
theorem Gw.ke {B : zd_B} {h h' : zd_H} {S : Nat → Prop} {d n : Nat} (g : Gw B h h' S d n) : Ke B h h' S := ⟨by rw [g.1]; omega, g.2.2⟩
theorem Ke.ob {B : zd_B} {h h' : zd_H} {S : Nat → Prop} {a ci : Nat} {fs : List Value} (f : Ke B h h' S) (o : zd_Ob B h a ci fs) (hn : ¬ S a) : zd_Ob B h' a ci fs := ⟨⟨o.1.1, by have := f.1; have := o.1.2; omega⟩, (f.2 a o.1.2 hn).trans o.2⟩
theorem Ke.ai {B : zd_B} {h h' : zd_H} {S : Nat → Prop} {a k n : Nat} {x : Nat → Int32} (f : Ke B h h' S) (o : zd_Ai B h a k n x) (hn : ¬ S a) : zd_Ai B h' a k n x := ⟨⟨o.1.1, by have := f.1; have := o.1.2; omega⟩, (f.2 a o.1.2 hn).trans o.2⟩
theorem Ke.ar {B : zd_B} {h h' : zd_H} {S : Nat → Prop} {a n : Nat} {x : Nat → Option Nat} (f : Ke B h h' S) (o : zd_Ar B h a n x) (hn : ¬ S a) : zd_Ar B h' a n x := ⟨⟨o.1.1, by have := f.1; have := o.1.2; omega⟩, (f.2 a o.1.2 hn).trans o.2⟩
theorem Ke.nv {B : zd_B} {h h' : zd_H} {S : Nat → Prop} {k R V : Nat} (f : Ke B h h' S) (o : Nv B h k R V) (h0 : ¬ S (zd_b0 B + k)) (h1 : ¬ S (zd_b0 B + k + 1)) : Nv B h' k R V := by
  have := o.kept f.fg h0 h1
  exact this
theorem Ke.dc {B : zd_B} {h h' : zd_H} {S : Nat → Prop} {k V : Nat} {ng : Bool} {s : Int} (f : Ke B h h' S) (o : Dc B h k ng V s) (h0 : ¬ S (zd_b0 B + k)) (h1 : ¬ S (zd_b0 B + (k + 1))) (h2 : ¬ S (zd_b0 B + (k + 1) + 1)) : Dc B h' k ng V s := by
  have := o.kept f.fg h0 h1 h2
  exact this
theorem Gw.push {B : zd_B} {h : zd_H} {c : zd_C} {n : Nat} {S : Nat → Prop} : Gw B h (zd_push h (zd_b0 B + h.1) c n) S 1 n := ⟨rfl, rfl, fun a ha _ => if_neg (by omega)⟩
theorem Gw.set {B : zd_B} {h : zd_H} {a : Nat} {c : zd_C} {S : Nat → Prop} (hs : S a) : Gw B h (zd_set h a c) S 0 0 := ⟨rfl, rfl, fun q _ hn => zd_set_n (fun e => hn (e ▸ hs))⟩
theorem Gw.tr {B : zd_B} {h h1 h2 : zd_H} {S : Nat → Prop} {d1 n1 d2 n2 : Nat} (a : Gw B h h1 S d1 n1) (b : Gw B h1 h2 S d2 n2) : Gw B h h2 S (d1 + d2) (n1 + n2) := ⟨by rw [b.1, a.1]; omega, by rw [b.2.1, a.2.1]; omega, fun q hq hn => (b.2.2 q (by rw [a.1]; omega) hn).trans (a.2.2 q hq hn)⟩
theorem Gw.mono {B : zd_B} {h h1 : zd_H} {S S' : Nat → Prop} {d n : Nat} (a : Gw B h h1 S d n) (hs : ∀ q, q < zd_b0 B + h.1 → S q → S' q) : Gw B h h1 S' d n := ⟨a.1, a.2.1, fun q hq hn => a.2.2 q hq (fun z => hn (hs q hq z))⟩
section YE
variable {l : Launch} {B : zd_B} {h : zd_H} {Q : zd_O → zd_H → Prop}
theorem na_init (hG : zd_G B) (hl : l.stackTraces = false) {k n : Nat} (hk : h.1 = k + 1) (hn : n < 1000) (o : zd_Ob B h (zd_b0 B + k) 4 [.null, .int 0]) (r1 : h.1 + 1 ≤ zd_CB) (r2 : h.2.1 + n ≤ zd_SB)
    (hq : ∀ h', Gw B h h' (fun q => q = zd_b0 B + k) 1 n → Nv B h' k n 0 → Q (.inl none) h') : zd_M l B m_Na_init [.ref (zd_b0 B + k), .int (nI n)] h Q := by
  refine zd_go (ok_Na_init hG hl) [] 60 ?_
  conv => whnf
  refine ⟨Nat.zero_le _, ?_⟩
  conv => whnf
  have hcl : (nI n).toNatClampNeg = n := nI_clamp (by omega)
  refine ⟨⟨fun z => absurd ((nI_ltI (b := 0) (by omega) (by decide)).mp z) (by omega), by rw [hcl]; omega, r1, by rw [hcl]; exact r2⟩, ?_⟩
  rw [hcl]
  have o1 : zd_Ob B (zd_push h (zd_b0 B + h.1) (.inr (.inl (0, n, fun _ => 0))) n) (zd_b0 B + k) 4 [.null, .int 0] := (Gw.push (S := fun _ => False)).ke.ob o (fun z => z)
  conv => whnf
  refine ⟨_, o1, Nat.le_of_ble_eq_true rfl, ⟨rfl, rfl⟩, ?_⟩
  conv => whnf
  have g1 : Gw B h (zd_push h (zd_b0 B + h.1) (.inr (.inl (0, n, fun _ => 0))) n) (fun q => q = zd_b0 B + k) 1 n := Gw.push
  refine ⟨hq _ (g1.tr (Gw.set rfl)) ⟨fun _ => 0, 0, ⟨⟨o1.1, zd_set_s.trans ?_⟩, ⟨⟨by omega, ?_⟩, ?_⟩, Nat.zero_le _, hn, fun _ => (by decide : (0 : Nat) < 1000000000)⟩, Or.inl rfl, rfl⟩, trivial⟩
  · rw [show zd_b0 B + h.1 = zd_b0 B + k + 1 by omega]
    rfl
  · show zd_b0 B + k + 1 < zd_b0 B + (h.1 + 1)
    omega
  · rw [show zd_b0 B + k + 1 = zd_b0 B + h.1 by omega]
    exact (zd_set_n (by omega)).trans (if_pos rfl)
/-- a new number, and its constructor -/
theorem na_new {y : zd_Y} {pc : Nat} {f : zd_H → Prop} (hG : zd_G B) (hl : l.stackTraces = false) {n : Nat} (hn : n < 1000) (r1 : h.1 + 2 ≤ zd_CB) (r2 : h.2.1 + 2 + n ≤ zd_SB)
    (hq : ∀ h', Gw B h h' (fun _ => False) 2 (2 + n) → Nv B h' h.1 n 0 → Q (.inl none) h') : zd_M l B m_Na_init [.ref (zd_b0 B + h.1), .int (nI n)] (zd_push h (zd_b0 B + h.1) (.inl (4, [.null, .int 0])) 2) Q := by
  have g0 : Gw B h (zd_push h (zd_b0 B + h.1) (.inl (4, [.null, .int 0])) 2) (fun _ => False) 1 2 := Gw.push
  refine na_init (k := h.1) hG hl rfl hn ⟨⟨by omega, by show _ < _ + (h.1 + 1); omega⟩, if_pos rfl⟩ (by show h.1 + 1 + 1 ≤ _; omega) (by show h.2.1 + 2 + n ≤ _; omega) (fun h' g n => hq h' ?_ n)
  refine ⟨by rw [g.1]; rfl, by rw [g.2.1]; show h.2.1 + 2 + _ = _; omega, fun q hq hn => ?_⟩
  rw [g.2.2 q (by show q < zd_b0 B + (h.1 + 1); omega) (fun e => by omega), g0.2.2 q hq hn]
theorem dc_init (hG : zd_G B) (hl : l.stackTraces = false) {k : Nat} (hk : h.1 = k + 1) (o : zd_Ob B h (zd_b0 B + k) 1 [.null, .int 0, .int 0]) (r1 : h.1 + 2 ≤ zd_CB) (r2 : h.2.1 + 114 ≤ zd_SB)
    (hq : ∀ h', Gw B h h' (fun q => q = zd_b0 B + k) 2 114 → Dc B h' k false 0 0 → Q (.inl none) h') : zd_M l B m_Dc_init [.ref (zd_b0 B + k)] h Q := by
  refine zd_go (ok_Dc_init hG hl) [] 60 ?_
  conv => whnf
  refine ⟨Nat.zero_le _, ?_⟩
  conv => whnf
  refine ⟨by omega, by omega, ?_⟩
  conv => whnf
  refine ⟨⟨rfl, Nat.le_of_ble_eq_true rfl, Nat.le_of_ble_eq_true rfl⟩, ?_⟩
  refine na_new (y := m_Dc_init) (pc := 0) (f := fun _ => True) (n := 112) hG hl (by decide) r1 (by omega) (fun h' g nv => ?_)
  have o1 := g.ke.ob o (fun z => z)
  conv => whnf
  refine ⟨_, o1, Nat.le_of_ble_eq_true rfl, ⟨rfl, rfl⟩, ?_⟩
  conv => whnf
  refine ⟨hq _ ((g.mono (S' := fun q => q = zd_b0 B + k) (fun q _ z => z.elim)).tr (Gw.set rfl)) ⟨⟨o1.1, zd_set_s.trans ?_⟩, ?_⟩, trivial⟩
  · rw [show zd_b0 B + h.1 = zd_b0 B + (k + 1) by omega]
    rfl
  · rw [hk] at nv
    exact (Gw.set (S := fun q => q = zd_b0 B + k) rfl).ke.nv nv (fun e => by omega) (fun e => by omega)
theorem dv_init (hG : zd_G B) (hl : l.stackTraces = false) {k : Nat} (hk : h.1 = k + 1) (o : zd_Ob B h (zd_b0 B + k) 2 [.null]) (r1 : h.1 + 2 ≤ zd_CB) (r2 : h.2.1 + 228 ≤ zd_SB)
    (hq : ∀ h', Gw B h h' (fun q => q = zd_b0 B + k) 2 228 → Dvd B h' k → Nv B h' (k + 1) 226 0 → Q (.inl none) h') : zd_M l B m_Dv_init [.ref (zd_b0 B + k)] h Q := by
  refine zd_go (ok_Dv_init hG hl) [] 60 ?_
  conv => whnf
  refine ⟨Nat.zero_le _, ?_⟩
  conv => whnf
  refine ⟨by omega, by omega, ?_⟩
  conv => whnf
  refine ⟨⟨rfl, Nat.le_of_ble_eq_true rfl, Nat.le_of_ble_eq_true rfl⟩, ?_⟩
  refine na_new (y := m_Dc_init) (pc := 0) (f := fun _ => True) (n := 226) hG hl (by decide) r1 (by omega) (fun h' g nv => ?_)
  have o1 := g.ke.ob o (fun z => z)
  conv => whnf
  refine ⟨_, o1, Nat.le_of_ble_eq_true rfl, ⟨rfl, rfl⟩, ?_⟩
  conv => whnf
  refine ⟨hq _ ((g.mono (S' := fun q => q = zd_b0 B + k) (fun q _ z => z.elim)).tr (Gw.set rfl)) ⟨o1.1, zd_set_s.trans ?_⟩ ?_, trivial⟩
  · rw [show zd_b0 B + h.1 = zd_b0 B + (k + 1) by omega]
    rfl
  · rw [hk] at nv
    exact (Gw.set (S := fun q => q = zd_b0 B + k) rfl).ke.nv nv (fun e => by omega) (fun e => by omega)
theorem ru_init (hG : zd_G B) (hl : l.stackTraces = false) {k : Nat} (hk : h.1 = k + 1) (o : zd_Ob B h (zd_b0 B + k) 6 [.null, .int 0, .int 0, .int 0]) (r1 : h.1 + 2 ≤ zd_CB) (r2 : h.2.1 + 228 ≤ zd_SB)
    (hq : ∀ h', Gw B h h' (fun q => q = zd_b0 B + k) 2 228 → zd_Ob B h' (zd_b0 B + k) 6 [.ref (zd_b0 B + (k + 1)), .int 0, .int 0, .int 0] → Nv B h' (k + 1) 226 0 → Q (.inl none) h') : zd_M l B m_Ru_init [.ref (zd_b0 B + k)] h Q := by
  refine zd_go (ok_Ru_init hG hl) [] 60 ?_
  conv => whnf
  refine ⟨Nat.zero_le _, ?_⟩
  conv => whnf
  refine ⟨by omega, by omega, ?_⟩
  conv => whnf
  refine ⟨⟨rfl, Nat.le_of_ble_eq_true rfl, Nat.le_of_ble_eq_true rfl⟩, ?_⟩
  refine na_new (y := m_Dc_init) (pc := 0) (f := fun _ => True) (n := 226) hG hl (by decide) r1 (by omega) (fun h' g nv => ?_)
  have o1 := g.ke.ob o (fun z => z)
  conv => whnf
  refine ⟨_, o1, Nat.le_of_ble_eq_true rfl, ⟨rfl, rfl⟩, ?_⟩
  conv => whnf
  refine ⟨hq _ ((g.mono (S' := fun q => q = zd_b0 B + k) (fun q _ z => z.elim)).tr (Gw.set rfl)) ⟨o1.1, zd_set_s.trans ?_⟩ ?_, trivial⟩
  · rw [show zd_b0 B + h.1 = zd_b0 B + (k + 1) by omega]
    rfl
  · rw [hk] at nv
    exact (Gw.set (S := fun q => q = zd_b0 B + k) rfl).ke.nv nv (fun e => by omega) (fun e => by omega)
theorem dr_init (hG : zd_G B) (hl : l.stackTraces = false) {k : Nat} {a b c d e f : Int32} {x : Int64} (hk : h.1 = k + 1) (o : zd_Ob B h (zd_b0 B + k) 3 [.null, .int a, .int b, .int c, .int d, .int e, .int f, .long x]) (r1 : h.1 + 1 ≤ zd_CB) (r2 : h.2.1 + 1100 ≤ zd_SB)
    (hq : ∀ h', Gw B h h' (fun q => q = zd_b0 B + k) 1 1100 → zd_Ob B h' (zd_b0 B + k) 3 [.ref (zd_b0 B + (k + 1)), .int a, .int b, .int c, .int d, .int e, .int f, .long x] → zd_Ai B h' (zd_b0 B + (k + 1)) 1 1100 (fun _ => 0) → Q (.inl none) h') : zd_M l B m_Dr_init [.ref (zd_b0 B + k)] h Q := by
  refine zd_go (ok_Dr_init hG hl) [] 60 ?_
  conv => whnf
  refine ⟨Nat.zero_le _, ?_⟩
  conv => whnf
  refine ⟨⟨by decide, by decide, r1, r2⟩, ?_⟩
  have o1 : zd_Ob B (zd_push h (zd_b0 B + h.1) (.inr (.inl (1, 1100, fun _ => 0))) 1100) (zd_b0 B + k) 3 [.null, .int a, .int b, .int c, .int d, .int e, .int f, .long x] := (Gw.push (S := fun _ => False)).ke.ob o (fun z => z)
  conv => whnf
  refine ⟨_, o1, Nat.le_of_ble_eq_true rfl, ⟨rfl, rfl⟩, ?_⟩
  conv => whnf
  have g1 : Gw B h (zd_push h (zd_b0 B + h.1) (.inr (.inl (1, 1100, fun _ => 0))) 1100) (fun q => q = zd_b0 B + k) 1 1100 := Gw.push
  refine ⟨hq _ (g1.tr (Gw.set rfl)) ⟨o1.1, zd_set_s.trans ?_⟩ ⟨⟨by omega, ?_⟩, ?_⟩, trivial⟩
  · rw [show zd_b0 B + h.1 = zd_b0 B + (k + 1) by omega]
    rfl
  · show zd_b0 B + (k + 1) < zd_b0 B + (h.1 + 1)
    omega
  · rw [show zd_b0 B + (k + 1) = zd_b0 B + h.1 by omega]
    exact (zd_set_n (by omega)).trans (if_pos rfl)
theorem te_init (hG : zd_G B) (hl : l.stackTraces = false) {k : Nat} {a : Int32} (hk : h.1 = k + 1) (o : zd_Ob B h (zd_b0 B + k) 7 [.null, .int a]) (r1 : h.1 + 1 ≤ zd_CB) (r2 : h.2.1 + 1100 ≤ zd_SB)
    (hq : ∀ h', Gw B h h' (fun q => q = zd_b0 B + k) 1 1100 → zd_Ob B h' (zd_b0 B + k) 7 [.ref (zd_b0 B + (k + 1)), .int a] → zd_Ai B h' (zd_b0 B + (k + 1)) 1 1100 (fun _ => 0) → Q (.inl none) h') : zd_M l B m_Te_init [.ref (zd_b0 B + k)] h Q := by
  refine zd_go (ok_Te_init hG hl) [] 60 ?_
  conv => whnf
  refine ⟨Nat.zero_le _, ?_⟩
  conv => whnf
  refine ⟨⟨by decide, by decide, r1, r2⟩, ?_⟩
  have o1 : zd_Ob B (zd_push h (zd_b0 B + h.1) (.inr (.inl (1, 1100, fun _ => 0))) 1100) (zd_b0 B + k) 7 [.null, .int a] := (Gw.push (S := fun _ => False)).ke.ob o (fun z => z)
  conv => whnf
  refine ⟨_, o1, Nat.le_of_ble_eq_true rfl, ⟨rfl, rfl⟩, ?_⟩
  conv => whnf
  have g1 : Gw B h (zd_push h (zd_b0 B + h.1) (.inr (.inl (1, 1100, fun _ => 0))) 1100) (fun q => q = zd_b0 B + k) 1 1100 := Gw.push
  refine ⟨hq _ (g1.tr (Gw.set rfl)) ⟨o1.1, zd_set_s.trans ?_⟩ ⟨⟨by omega, ?_⟩, ?_⟩, trivial⟩
  · rw [show zd_b0 B + h.1 = zd_b0 B + (k + 1) by omega]
    rfl
  · show zd_b0 B + (k + 1) < zd_b0 B + (h.1 + 1)
    omega
  · rw [show zd_b0 B + (k + 1) = zd_b0 B + h.1 by omega]
    exact (zd_set_n (by omega)).trans (if_pos rfl)
theorem ro_init (hG : zd_G B) (hl : l.stackTraces = false) {k d : Nat} (hk : h.1 = k + 1) (o : zd_Ob B h (zd_b0 B + k) 5 [.null, .null, .null, .null]) (r1 : h.1 + 6 ≤ zd_CB) (r2 : h.2.1 + 684 ≤ zd_SB)
    (hq : ∀ h', Gw B h h' (fun q => q = zd_b0 B + k) 6 684 → zd_Ob B h' (zd_b0 B + k) 5 [.ref (zd_b0 B + d), .ref (zd_b0 B + (k + 1)), .ref (zd_b0 B + (k + 3)), .ref (zd_b0 B + (k + 5))] → Nv B h' (k + 1) 226 0 → Nv B h' (k + 3) 226 0 → Nv B h' (k + 5) 226 0 → Q (.inl none) h') : zd_M l B m_Ro_init [.ref (zd_b0 B + k), .ref (zd_b0 B + d)] h Q := by
  refine zd_go (ok_Ro_init hG hl) [] 60 ?_
  conv => whnf
  refine ⟨by decide, ?_⟩
  conv => whnf
  refine ⟨by omega, by omega, ?_⟩
  conv => whnf
  refine ⟨⟨rfl, Nat.le_of_ble_eq_true rfl, Nat.le_of_ble_eq_true rfl⟩, ?_⟩
  refine na_new (y := m_Dc_init) (pc := 0) (f := fun _ => True) (n := 226) hG hl (by decide) (by omega) (by omega) (fun h1 g1 nv1 => ?_)
  have o1 := g1.ke.ob o (fun z => z)
  have c1 := g1.1
  have s1 := g1.2.1
  rw [hk] at nv1
  conv => whnf
  refine ⟨_, o1, Nat.le_of_ble_eq_true rfl, ⟨rfl, rfl⟩, ?_⟩
  conv => whnf
  have ga : ∀ c, Gw B h1 (zd_set h1 (zd_b0 B + k) c) (fun q => q = zd_b0 B + k) 0 0 := fun c => Gw.set rfl
  have o2 : zd_Ob B (zd_set h1 (zd_b0 B + k) (.inl (5, [.null, .ref (zd_b0 B + h.1), .null, .null]))) (zd_b0 B + k) 5 [.null, .ref (zd_b0 B + h.1), .null, .null] := ⟨o1.1, zd_set_s⟩
  have nv1 := (ga (.inl (5, [.null, .ref (zd_b0 B + h.1), .null, .null]))).ke.nv nv1 (fun e => by omega) (fun e => by omega)
  have t1 : Gw B h (zd_set h1 (zd_b0 B + k) (.inl (5, [.null, .ref (zd_b0 B + h.1), .null, .null]))) (fun q => q = zd_b0 B + k) 2 228 := (g1.mono (S' := fun q => q = zd_b0 B + k) (fun q _ z => z.elim)).tr (Gw.set rfl)
  refine ⟨by show h1.1 + 1 ≤ _; omega, by show h1.2.1 + 2 ≤ _; omega, ?_⟩
  conv => whnf
  refine ⟨⟨rfl, Nat.le_of_ble_eq_true rfl, Nat.le_of_ble_eq_true rfl⟩, ?_⟩
  refine na_new (y := m_Dc_init) (pc := 0) (f := fun _ => True) (n := 226) hG hl (by decide) (by show h1.1 + 2 ≤ _; omega) (by show h1.2.1 + 2 + 226 ≤ _; omega) (fun h2 g2 nv2 => ?_)
  have o3 := g2.ke.ob o2 (fun z => z)
  have nv1 := g2.ke.nv nv1 (fun z => z) (fun z => z)
  have c2 : h2.1 = h1.1 + 2 := g2.1
  have s2 : h2.2.1 = h1.2.1 + (2 + 226) := g2.2.1
  have nv2 : Nv B h2 (k + 3) 226 0 := by
    rw [show k + 3 = h1.1 by omega]
    exact nv2
  conv => whnf
  refine ⟨_, o3, Nat.le_of_ble_eq_true rfl, ⟨rfl, rfl⟩, ?_⟩
  conv => whnf
  have gb : ∀ c, Gw B h2 (zd_set h2 (zd_b0 B + k) c) (fun q => q = zd_b0 B + k) 0 0 := fun c => Gw.set rfl
  have o4 : zd_Ob B (zd_set h2 (zd_b0 B + k) (.inl (5, [.null, .ref (zd_b0 B + h.1), .ref (zd_b0 B + h1.1), .null]))) (zd_b0 B + k) 5 [.null, .ref (zd_b0 B + h.1), .ref (zd_b0 B + h1.1), .null] := ⟨o3.1, zd_set_s⟩
  have nv1 := (gb (.inl (5, [.null, .ref (zd_b0 B + h.1), .ref (zd_b0 B + h1.1), .null]))).ke.nv nv1 (fun e => by omega) (fun e => by omega)
  have nv2 := (gb (.inl (5, [.null, .ref (zd_b0 B + h.1), .ref (zd_b0 B + h1.1), .null]))).ke.nv nv2 (fun e => by omega) (fun e => by omega)
  have t2 : Gw B h (zd_set h2 (zd_b0 B + k) (.inl (5, [.null, .ref (zd_b0 B + h.1), .ref (zd_b0 B + h1.1), .null]))) (fun q => q = zd_b0 B + k) 4 456 := (t1.tr (g2.mono (S' := fun q => q = zd_b0 B + k) (fun q _ z => z.elim))).tr (Gw.set rfl)
  refine ⟨by show h2.1 + 1 ≤ _; omega, by show h2.2.1 + 2 ≤ _; omega, ?_⟩
  conv => whnf
  refine ⟨⟨rfl, Nat.le_of_ble_eq_true rfl, Nat.le_of_ble_eq_true rfl⟩, ?_⟩
  refine na_new (y := m_Dc_init) (pc := 0) (f := fun _ => True) (n := 226) hG hl (by decide) (by show h2.1 + 2 ≤ _; omega) (by show h2.2.1 + 2 + 226 ≤ _; omega) (fun h3 g3 nv3 => ?_)
  have o5 := g3.ke.ob o4 (fun z => z)
  have nv1 := g3.ke.nv nv1 (fun z => z) (fun z => z)
  have nv2 := g3.ke.nv nv2 (fun z => z) (fun z => z)
  have c3 : h3.1 = h2.1 + 2 := g3.1
  have nv3 : Nv B h3 (k + 5) 226 0 := by
    rw [show k + 5 = h2.1 by omega]
    exact nv3
  conv => whnf
  refine ⟨_, o5, Nat.le_of_ble_eq_true rfl, ⟨rfl, rfl⟩, ?_⟩
  conv => whnf
  have gc : ∀ c, Gw B h3 (zd_set h3 (zd_b0 B + k) c) (fun q => q = zd_b0 B + k) 0 0 := fun c => Gw.set rfl
  have o6 : zd_Ob B (zd_set h3 (zd_b0 B + k) (.inl (5, [.null, .ref (zd_b0 B + h.1), .ref (zd_b0 B + h1.1), .ref (zd_b0 B + h2.1)]))) (zd_b0 B + k) 5 [.null, .ref (zd_b0 B + h.1), .ref (zd_b0 B + h1.1), .ref (zd_b0 B + h2.1)] := ⟨o5.1, zd_set_s⟩
  have t3 : Gw B h (zd_set h3 (zd_b0 B + k) (.inl (5, [.null, .ref (zd_b0 B + h.1), .ref (zd_b0 B + h1.1), .ref (zd_b0 B + h2.1)]))) (fun q => q = zd_b0 B + k) 6 684 := (t2.tr (g3.mono (S' := fun q => q = zd_b0 B + k) (fun q _ z => z.elim))).tr (Gw.set rfl)
  refine ⟨_, o6, Nat.le_of_ble_eq_true rfl, ⟨rfl, rfl⟩, ?_⟩
  conv => whnf
  have fin : ∀ c1 c2, Gw B h3 (zd_set (zd_set h3 (zd_b0 B + k) c1) (zd_b0 B + k) c2) (fun q => q = zd_b0 B + k) 0 0 := fun c1 c2 => (Gw.set (S := fun q => q = zd_b0 B + k) rfl).tr (Gw.set (S := fun q => q = zd_b0 B + k) rfl)
  refine ⟨hq _ (t3.tr (Gw.set rfl)) ⟨o6.1, zd_set_s.trans ?_⟩ ((fin _ _).ke.nv nv1 (fun e => by omega) (fun e => by omega)) ((fin _ _).ke.nv nv2 (fun e => by omega) (fun e => by omega)) ((fin _ _).ke.nv nv3 (fun e => by omega) (fun e => by omega)), trivial⟩
  rw [show zd_b0 B + h.1 = zd_b0 B + (k + 1) by omega, show zd_b0 B + h1.1 = zd_b0 B + (k + 3) by omega, show zd_b0 B + h2.1 = zd_b0 B + (k + 5) by omega]
  rfl
end YE

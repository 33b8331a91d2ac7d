/-! a machine for the desk: registers and scratch numbers by what they are -/
/-- the registers; rough's sign, scale, lost; rough's number, other, outcome (none: whatever) -/
abbrev zx : Type := (Nat → zr) × (Int32 × Int32 × Int32) × (Option Nat × Option Nat × Option Nat)
def NvO (B : zd_B) (h : zd_H) (k R : Nat) (o : Option Nat) : Prop := match o with
  | some V => Nv B h k R V
  | none => Ns B h k R
def xi (B : zd_B) (h : zd_H) (a : zx) : Prop :=
  (zd_Ob B h (zd_b0 B + 0) 0 [.ref (zd_b0 B + 1), .ref (zd_b0 B + 32), .ref (zd_b0 B + 34), .ref (zd_b0 B + 36), .ref (zd_b0 B + 39), .ref (zd_b0 B + 46), .ref (zd_b0 B + 49), .ref (zd_b0 B + 51)] ∧ zd_Ar B h (zd_b0 B + 1) 10 (fun i => some (zd_b0 B + (2 + 3 * i)))) ∧
  (∀ i, i < 10 → Dc B h (2 + 3 * i) (a.1 i).1 (a.1 i).2.1 (a.1 i).2.2) ∧
  zd_Ob B h (zd_b0 B + 46) 6 [.ref (zd_b0 B + 47), .int a.2.1.1, .int a.2.1.2.1, .int a.2.1.2.2] ∧ NvO B h 47 226 a.2.2.1 ∧ NvO B h 49 226 a.2.2.2.1 ∧ NvO B h 51 226 a.2.2.2.2 ∧
  (Dvd B h 36 ∧ Ns B h 37 226 ∧ Rtr B h ∧ Ns B h 40 226 ∧ Ns B h 42 226 ∧ Ns B h 44 226)
/-- the cells that a call may change -/
def xs (B : zd_B) : Nat → Prop := fun q => (zd_b0 B + 2 ≤ q ∧ q ≤ zd_b0 B + 31) ∨ (zd_b0 B + 36 ≤ q ∧ q ≤ zd_b0 B + 52)
theorem NvO.s {B : zd_B} {h : zd_H} {k R : Nat} {o : Option Nat} (a : NvO B h k R o) : Ns B h k R := by
  cases o
  · exact a
  · exact Nv.s a
theorem NvO.kept {B : zd_B} {h h' : zd_H} {S : Nat → Prop} {d k R : Nat} {o : Option Nat} (hN : NvO B h k R o) (f : Fg B h h' S d) (h0 : ¬ S (zd_b0 B + k)) (h1 : ¬ S (zd_b0 B + k + 1)) : NvO B h' k R o := by
  cases o
  · exact Ns.kept hN f h0 h1
  · exact Nv.kept hN f h0 h1
theorem Fg.ar {B : zd_B} {h h' : zd_H} {S : Nat → Prop} {d a n : Nat} {x : Nat → Option Nat} (f : Fg B h h' S d) (ho : zd_Ar B h a n x) (hn : ¬ S a) : zd_Ar B h' a n x := ⟨⟨ho.1.1, by rw [f.1]; have := ho.1.2; omega⟩, (f.2.2 a ho.1.2 hn).trans ho.2⟩
theorem Dc.kept {B : zd_B} {h h' : zd_H} {S : Nat → Prop} {neg : Bool} {k V d : Nat} {s : Int} (a : Dc B h k neg V s) (f : Fg B h h' S d) (h0 : ¬ S (zd_b0 B + k)) (h1 : ¬ S (zd_b0 B + (k + 1))) (h2 : ¬ S (zd_b0 B + (k + 1) + 1)) : Dc B h' k neg V s := ⟨f.ob a.1 h0, a.2.kept f h1 h2⟩
theorem xi.kept {B : zd_B} {h h' : zd_H} {S : Nat → Prop} {d : Nat} {a : zx} (x : xi B h a) (f : Fg B h h' S d) (hS : ∀ k, k < 53 → ¬ S (zd_b0 B + k)) : xi B h' a := by
  obtain ⟨⟨x1, x2⟩, x3, x4, x5, x6, x7, x8, x9, x10, x11, x12, x13⟩ := x
  refine ⟨⟨f.ob x1 (hS 0 (by decide)), f.ar x2 (hS 1 (by decide))⟩, fun i hi => (x3 i hi).kept f (hS _ (by omega)) (hS _ (by omega)) (hS (2 + 3 * i + 1 + 1) (by omega)), f.ob x4 (hS 46 (by decide)), x5.kept f (hS 47 (by decide)) (hS 48 (by decide)), x6.kept f (hS 49 (by decide)) (hS 50 (by decide)), x7.kept f (hS 51 (by decide)) (hS 52 (by decide)), f.ob x8 (hS 36 (by decide)), x9.kept f (hS 37 (by decide)) (hS 38 (by decide)), f.ob x10 (hS 39 (by decide)), x11.kept f (hS 40 (by decide)) (hS 41 (by decide)), x12.kept f (hS 42 (by decide)) (hS 43 (by decide)), x13.kept f (hS 44 (by decide)) (hS 45 (by decide))⟩
/-- one of the scratch numbers changed -/
theorem xi.n47 {B : zd_B} {h h' : zd_H} {a : zx} {o : Option Nat} (x : xi B h a) (f : Fg B h h' (NS B 47) 0) (n : NvO B h' 47 226 o) : xi B h' (a.1, a.2.1, o, a.2.2.2) := by
  obtain ⟨⟨x1, x2⟩, x3, x4, x5, x6, x7, x8, x9, x10, x11, x12, x13⟩ := x
  have hS : ∀ k, k < 47 ∨ 48 < k → ¬ NS B 47 (zd_b0 B + k) := fun k hk q => by rcases q with q | q <;> omega
  exact ⟨⟨f.ob x1 (hS 0 (by decide)), f.ar x2 (hS 1 (by decide))⟩, fun i hi => (x3 i hi).kept f (hS _ (by omega)) (hS _ (by omega)) (hS (2 + 3 * i + 1 + 1) (by omega)), f.ob x4 (hS 46 (by decide)), n, x6.kept f (hS 49 (by decide)) (hS 50 (by decide)), x7.kept f (hS 51 (by decide)) (hS 52 (by decide)), f.ob x8 (hS 36 (by decide)), x9.kept f (hS 37 (by decide)) (hS 38 (by decide)), f.ob x10 (hS 39 (by decide)), x11.kept f (hS 40 (by decide)) (hS 41 (by decide)), x12.kept f (hS 42 (by decide)) (hS 43 (by decide)), x13.kept f (hS 44 (by decide)) (hS 45 (by decide))⟩
theorem xi.n49 {B : zd_B} {h h' : zd_H} {a : zx} {o : Option Nat} (x : xi B h a) (f : Fg B h h' (NS B 49) 0) (n : NvO B h' 49 226 o) : xi B h' (a.1, a.2.1, a.2.2.1, o, a.2.2.2.2) := by
  obtain ⟨⟨x1, x2⟩, x3, x4, x5, x6, x7, x8, x9, x10, x11, x12, x13⟩ := x
  have hS : ∀ k, k < 49 ∨ 50 < k → ¬ NS B 49 (zd_b0 B + k) := fun k hk q => by rcases q with q | q <;> omega
  exact ⟨⟨f.ob x1 (hS 0 (by decide)), f.ar x2 (hS 1 (by decide))⟩, fun i hi => (x3 i hi).kept f (hS _ (by omega)) (hS _ (by omega)) (hS (2 + 3 * i + 1 + 1) (by omega)), f.ob x4 (hS 46 (by decide)), x5.kept f (hS 47 (by decide)) (hS 48 (by decide)), n, x7.kept f (hS 51 (by decide)) (hS 52 (by decide)), f.ob x8 (hS 36 (by decide)), x9.kept f (hS 37 (by decide)) (hS 38 (by decide)), f.ob x10 (hS 39 (by decide)), x11.kept f (hS 40 (by decide)) (hS 41 (by decide)), x12.kept f (hS 42 (by decide)) (hS 43 (by decide)), x13.kept f (hS 44 (by decide)) (hS 45 (by decide))⟩
theorem xi.n51 {B : zd_B} {h h' : zd_H} {a : zx} {o : Option Nat} (x : xi B h a) (f : Fg B h h' (NS B 51) 0) (n : NvO B h' 51 226 o) : xi B h' (a.1, a.2.1, a.2.2.1, a.2.2.2.1, o) := by
  obtain ⟨⟨x1, x2⟩, x3, x4, x5, x6, x7, x8, x9, x10, x11, x12, x13⟩ := x
  have hS : ∀ k, k < 51 ∨ 52 < k → ¬ NS B 51 (zd_b0 B + k) := fun k hk q => by rcases q with q | q <;> omega
  exact ⟨⟨f.ob x1 (hS 0 (by decide)), f.ar x2 (hS 1 (by decide))⟩, fun i hi => (x3 i hi).kept f (hS _ (by omega)) (hS _ (by omega)) (hS (2 + 3 * i + 1 + 1) (by omega)), f.ob x4 (hS 46 (by decide)), x5.kept f (hS 47 (by decide)) (hS 48 (by decide)), x6.kept f (hS 49 (by decide)) (hS 50 (by decide)), n, f.ob x8 (hS 36 (by decide)), x9.kept f (hS 37 (by decide)) (hS 38 (by decide)), f.ob x10 (hS 39 (by decide)), x11.kept f (hS 40 (by decide)) (hS 41 (by decide)), x12.kept f (hS 42 (by decide)) (hS 43 (by decide)), x13.kept f (hS 44 (by decide)) (hS 45 (by decide))⟩
/-- rough's own fields set -/
theorem xi.n46 {B : zd_B} {h h' : zd_H} {a : zx} {r : Int32 × Int32 × Int32} (x : xi B h a) (f : Fg B h h' (fun q => q = zd_b0 B + 46) 0) (n : zd_Ob B h' (zd_b0 B + 46) 6 [.ref (zd_b0 B + 47), .int r.1, .int r.2.1, .int r.2.2]) : xi B h' (a.1, r, a.2.2) := by
  obtain ⟨⟨x1, x2⟩, x3, x4, x5, x6, x7, x8, x9, x10, x11, x12, x13⟩ := x
  have hS : ∀ k, k < 46 ∨ 46 < k → ¬ (zd_b0 B + k = zd_b0 B + 46) := fun k hk q => by omega
  exact ⟨⟨f.ob x1 (hS 0 (by decide)), f.ar x2 (hS 1 (by decide))⟩, fun i hi => (x3 i hi).kept f (hS _ (by omega)) (hS _ (by omega)) (hS (2 + 3 * i + 1 + 1) (by omega)), n, x5.kept f (hS 47 (by decide)) (hS 48 (by decide)), x6.kept f (hS 49 (by decide)) (hS 50 (by decide)), x7.kept f (hS 51 (by decide)) (hS 52 (by decide)), f.ob x8 (hS 36 (by decide)), x9.kept f (hS 37 (by decide)) (hS 38 (by decide)), f.ob x10 (hS 39 (by decide)), x11.kept f (hS 40 (by decide)) (hS 41 (by decide)), x12.kept f (hS 42 (by decide)) (hS 43 (by decide)), x13.kept f (hS 44 (by decide)) (hS 45 (by decide))⟩
theorem Fg.tr2 {B : zd_B} {h h1 h2 : zd_H} {S : Nat → Prop} {d : Nat} (a : Fg B h h1 S 0) (b : Fg B h1 h2 S d) : Fg B h h2 S d := by
  have := a.tr b
  rwa [Nat.zero_add] at this
/-- the outcome: a value, or the number of an exception's class -/
def zx_P (B : zd_B) (h0 : zd_H) (Q : Option Value ⊕ Nat → zx → Prop) : zd_O → zd_H → Prop := fun x h => ∃ o a, xi B h a ∧ Q o a ∧ match o with
  | .inl v => x = .inl (v.map (vm B)) ∧ Fg B h0 h (xs B) 0
  | .inr c => x = .inr (zd_b0 B + h0.1, c) ∧ Fg B h0 h (xs B) 1 ∧ h.2.2 (zd_b0 B + h0.1) = .inl (c, [])
def zx_W (l : Launch) (B : zd_B) (y : zd_Y) (pc : Nat) (ls : zd_V) (st : List Value) (a : zx) (Q : Option Value ⊕ Nat → zx → Prop) : Prop := ∀ h0 h : zd_H, Rm h0 → Fg B h0 h (xs B) 0 → xi B h a → zd_W l B y pc (lsm B ls) (st.map (vm B)) h (zx_P B h0 Q)
def zx_M (l : Launch) (B : zd_B) (y : zd_Y) (as : List Value) (a : zx) (Q : Option Value ⊕ Nat → zx → Prop) : Prop := zx_W l B y 0 (zd_pad (zd_yl y) (zd_ent as)) [] a Q
abbrev zx_K : Type := Nat → zd_V → List Value → zx → Prop
abbrev zx_S : Type := zx_K → zd_V → List Value → zx → (Option Value ⊕ Nat → zx → Prop) → Prop
def zx_ok (l : Launch) (B : zd_B) (y : zd_Y) (pc : Nat) (f : zx_S) : Prop := ∀ (K : zx_K) (ls : zd_V) (st : List Value) (a : zx) (Q : Option Value ⊕ Nat → zx → Prop), (∀ pc' ls' st' a', K pc' ls' st' a' → zx_W l B y pc' ls' st' a' Q) → f K ls st a Q → zx_W l B y pc ls st a Q
def zx_lk : List (Nat × zx_S) → Nat → Option zx_S
  | [], _ => none
  | q :: r, pc => cond (Nat.beq q.1 pc) (some q.2) (zx_lk r pc)
def zx_b (l : Launch) (B : zd_B) (y : zd_Y) (cd : List (Nat × zx_S)) (stop : List Nat) (Q : Option Value ⊕ Nat → zx → Prop) (n : Nat) : zx_K :=
  @Nat.rec (fun _ => zx_K) (fun pc ls st a => zx_W l B y pc ls st a Q ∧ True) (fun _ ih pc ls st a => cond (zd_isin stop pc) (zx_W l B y pc ls st a Q ∧ True) (match zx_lk cd pc with
    | some f => f ih ls st a Q
    | none => False)) n
def zx_g (l : Launch) (B : zd_B) (y : zd_Y) (cd : List (Nat × zx_S)) (stop : List Nat) (n : Nat) : zd_V → List Value → zx → (Option Value ⊕ Nat → zx → Prop) → Nat → Prop := fun ls st a Q pc => zd_fl ls (fun ls =>
  match zx_lk cd pc with
    | some f => f (zx_b l B y cd stop Q n) ls st a Q
    | none => False)
theorem zx_lk_in {cd : List (Nat × zx_S)} {pc : Nat} {f : zx_S} (h : zx_lk cd pc = some f) : (pc, f) ∈ cd := by
  induction cd with
  | nil => cases h
  | cons q r ih =>
    unfold zx_lk at h
    cases hq : Nat.beq q.1 pc with
    | true =>
      rw [hq] at h
      have e1 : q.2 = f := Option.some.inj h
      have e2 : q.1 = pc := Nat.eq_of_beq_eq_true hq
      rw [← e1, ← e2]
      exact List.mem_cons_self
    | false =>
      rw [hq] at h
      exact List.mem_cons_of_mem _ (ih h)
theorem zx_b_ok {l : Launch} {B : zd_B} {y : zd_Y} {cd : List (Nat × zx_S)} (hcd : ∀ q ∈ cd, zx_ok l B y q.1 q.2) {stop : List Nat} {Q : Option Value ⊕ Nat → zx → Prop} (n : Nat) :
    ∀ pc ls st a, zx_b l B y cd stop Q n pc ls st a → zx_W l B y pc ls st a Q := by
  induction n with
  | zero => exact fun pc ls st a q => q.1
  | succ n ih =>
    intro pc ls st a q
    have q' : cond (zd_isin stop pc) (zx_W l B y pc ls st a Q ∧ True) (match zx_lk cd pc with
      | some f => f (zx_b l B y cd stop Q n) ls st a Q
      | none => False) := q
    cases hs : zd_isin stop pc with
    | true => rw [hs] at q'; exact q'.1
    | false =>
      rw [hs] at q'
      have q2 : (match zx_lk cd pc with
        | some f => f (zx_b l B y cd stop Q n) ls st a Q
        | none => False) := q'
      cases hf : zx_lk cd pc with
      | none => rw [hf] at q2; exact q2.elim
      | some f =>
        rw [hf] at q2
        exact hcd _ (zx_lk_in hf) _ ls st a Q ih q2
theorem zx_go {l : Launch} {B : zd_B} {y : zd_Y} {cd : List (Nat × zx_S)} (hcd : ∀ q ∈ cd, zx_ok l B y q.1 q.2) (stop : List Nat) (n : Nat) {Q : Option Value ⊕ Nat → zx → Prop} {pc : Nat} {ls : zd_V} {st : List Value} {a : zx}
    (q : zx_g l B y cd stop n ls st a Q pc) : zx_W l B y pc ls st a Q := by
  unfold zx_g at q
  have q : (match zx_lk cd pc with
    | some f => f (zx_b l B y cd stop Q n) ls st a Q
    | none => False) := zd_fl_eq q
  cases hf : zx_lk cd pc with
  | none => rw [hf] at q; exact q.elim
  | some f =>
    rw [hf] at q
    exact hcd _ (zx_lk_in hf) _ ls st a Q (zx_b_ok hcd n) q
theorem zx_ac {l : Launch} {B : zd_B} {y : zd_Y} {q : Nat × zx_S} {r : List (Nat × zx_S)} (h : zx_ok l B y q.1 q.2) (t : ∀ x ∈ r, zx_ok l B y x.1 x.2) : ∀ x ∈ q :: r, zx_ok l B y x.1 x.2 := fun x hx => (List.mem_cons.mp hx).elim (fun e => by rw [e]; exact h) (t x)
theorem zx_an {l : Launch} {B : zd_B} {y : zd_Y} : ∀ x ∈ ([] : List (Nat × zx_S)), zx_ok l B y x.1 x.2 := fun x hx => by cases hx
/-! the instructions -/
def xm_p (f : zd_S) : zx_S := fun K ls st a _ => f (fun pc ls st _ => K pc ls st a) ls st (0, 0, fun _ => .inl (0, [])) (fun _ _ => False)
theorem xm_pk {l : Launch} {B : zd_B} {y : zd_Y} {pc : Nat} {f : zd_S} (hn : zm_nt f) (hok : zd_ok l B y pc f) : zx_ok l B y pc (xm_p f) := by
  intro K ls st a Q hK q h0 h r0 f0 xa
  refine hok (fun pc ls st h => zd_W l B y pc ls st h (zx_P B h0 Q)) _ _ _ _ (fun _ _ _ _ z => z) ?_
  exact hn B (fun pc ls st => K pc ls st a) _ ls st _ _ _ _ (fun pc ls st z => hK pc ls st a z h0 h r0 f0 xa) q
def xm_getd (k nx : Nat) : zx_S := fun K ls st a _ => match st with
  | .ref r :: t => cond (Nat.beq r 0) (match ([1, 32, 34, 36, 39, 46, 49, 51] : List Nat)[k]? with
    | some p => K nx ls (.ref p :: t) a
    | none => False) False
  | _ => False
theorem ok_xgetd {l : Launch} {B : zd_B} {y : zd_Y} {pc k nx : Nat} (hok : zd_ok l B y pc (oc_getf B 0 k nx)) : zx_ok l B y pc (xm_getd k nx) := by
  intro K ls st a Q hK q h0 h r0 f0 xa
  unfold xm_getd at q
  split at q
  · rename_i r t
    cases ha : Nat.beq r 0 with
    | false => rw [ha] at q; exact q.elim
    | true =>
      rw [ha] at q
      have e := Nat.eq_of_beq_eq_true ha
      subst e
      have q : (match ([1, 32, 34, 36, 39, 46, 49, 51] : List Nat)[k]? with
        | some p => K nx ls (.ref p :: t) a
        | none => False) := q
      split at q
      · rename_i p hp
        refine hok (fun pc ls st h => zd_W l B y pc ls st h (zx_P B h0 Q)) _ _ _ _ (fun _ _ _ _ z => z) ?_
        refine ⟨_, xa.1.1, ?_⟩
        have e2 : ([.ref (zd_b0 B + 1), .ref (zd_b0 B + 32), .ref (zd_b0 B + 34), .ref (zd_b0 B + 36), .ref (zd_b0 B + 39), .ref (zd_b0 B + 46), .ref (zd_b0 B + 49), .ref (zd_b0 B + 51)] : List Value) = ([1, 32, 34, 36, 39, 46, 49, 51] : List Nat).map (fun p => .ref (zd_b0 B + p)) := rfl
        rw [e2, List.getElem?_map, hp]
        exact hK _ _ _ _ q h0 h r0 f0 xa
      · exact q.elim
  · exact q.elim
/-- rough's fields -/
def xrf (a : zx) (k : Nat) : Option Value := ([.ref 47, .int a.2.1.1, .int a.2.1.2.1, .int a.2.1.2.2] : List Value)[k]?
def xm_getr (k nx : Nat) : zx_S := fun K ls st a _ => match st with
  | .ref r :: t => cond (Nat.beq r 46) (match xrf a k with
    | some v => K nx ls (v :: t) a
    | none => False) False
  | _ => False
theorem ok_xgetr {l : Launch} {B : zd_B} {y : zd_Y} {pc k nx : Nat} (hok : zd_ok l B y pc (oc_getf B 6 k nx)) : zx_ok l B y pc (xm_getr k nx) := by
  intro K ls st a Q hK q h0 h r0 f0 xa
  unfold xm_getr at q
  split at q
  · rename_i r t
    cases ha : Nat.beq r 46 with
    | false => rw [ha] at q; exact q.elim
    | true =>
      rw [ha] at q
      have e := Nat.eq_of_beq_eq_true ha
      subst e
      have q : (match xrf a k with
        | some v => K nx ls (v :: t) a
        | none => False) := q
      split at q
      · rename_i v hv
        refine hok (fun pc ls st h => zd_W l B y pc ls st h (zx_P B h0 Q)) _ _ _ _ (fun _ _ _ _ z => z) ?_
        refine ⟨_, xa.2.2.1, ?_⟩
        have e2 : ([.ref (zd_b0 B + 47), .int a.2.1.1, .int a.2.1.2.1, .int a.2.1.2.2] : List Value) = ([.ref 47, .int a.2.1.1, .int a.2.1.2.1, .int a.2.1.2.2] : List Value).map (vm B) := rfl
        unfold xrf at hv
        rw [e2, List.getElem?_map, hv]
        exact hK _ _ _ _ q h0 h r0 f0 xa
      · exact q.elim
  · exact q.elim
/-- a register's fields -/
def xcf (a : zx) (i k : Nat) : Option Value := ([.ref (3 + 3 * i), .int (bI (a.1 i).1), .int (iI (a.1 i).2.2)] : List Value)[k]?
def xm_getc (k nx : Nat) : zx_S := fun K ls st a _ => match st with
  | .ref r :: t => ∃ i : Nat, r = (2 + 3 * i : Nat) ∧ i < 10 ∧ (match xcf a i k with
    | some v => K nx ls (v :: t) a
    | none => False)
  | _ => False
theorem ok_xgetc {l : Launch} {B : zd_B} {y : zd_Y} {pc k nx : Nat} (hok : zd_ok l B y pc (oc_getf B 1 k nx)) : zx_ok l B y pc (xm_getc k nx) := by
  intro K ls st a Q hK q h0 h r0 f0 xa
  unfold xm_getc at q
  split at q
  · rename_i r t
    obtain ⟨i, e, hi, q⟩ := q
    subst e
    split at q
    · rename_i v hv
      refine hok (fun pc ls st h => zd_W l B y pc ls st h (zx_P B h0 Q)) _ _ _ _ (fun _ _ _ _ z => z) ?_
      refine ⟨_, (xa.2.1 i hi).1, ?_⟩
      have e2 : ([.ref (zd_b0 B + (2 + 3 * i + 1)), .int (bI (a.1 i).1), .int (iI (a.1 i).2.2)] : List Value) = ([.ref (3 + 3 * i), .int (bI (a.1 i).1), .int (iI (a.1 i).2.2)] : List Value).map (vm B) := by
        show _ = [Value.ref (zd_b0 B + (3 + 3 * i)), Value.int (bI (a.1 i).1), Value.int (iI (a.1 i).2.2)]
        rw [show 2 + 3 * i + 1 = 3 + 3 * i by omega]
      unfold xcf at hv
      rw [e2, List.getElem?_map, hv]
      exact hK _ _ _ _ q h0 h r0 f0 xa
    · exact q.elim
  · exact q.elim
def xm_aald (nx : Nat) : zx_S := fun K ls st a _ => match st with
  | .int x :: .ref r :: t => cond (Nat.beq r 1) (∃ i : Nat, x = nI i ∧ i < 10 ∧ K nx ls (.ref (2 + 3 * i : Nat) :: t) a) False
  | _ => False
theorem ok_xaald {l : Launch} {B : zd_B} {y : zd_Y} {pc nx : Nat} (hok : zd_ok l B y pc (oc_aaload B nx)) : zx_ok l B y pc (xm_aald nx) := by
  intro K ls st a Q hK q h0 h r0 f0 xa
  unfold xm_aald at q
  split at q
  · rename_i x r t
    cases ha : Nat.beq r 1 with
    | false => rw [ha] at q; exact q.elim
    | true =>
      rw [ha] at q
      have e := Nat.eq_of_beq_eq_true ha
      subst e
      obtain ⟨i, e, hi, q⟩ := q
      subst e
      refine hok (fun pc ls st h => zd_W l B y pc ls st h (zx_P B h0 Q)) _ _ _ _ (fun _ _ _ _ z => z) ?_
      refine ⟨_, _, zd_b0 B + (2 + 3 * i), xa.1.2, vp_in_nI hi (by decide), ?_, ?_⟩
      · rw [nI_clamp (by omega)]
      · exact hK _ _ _ _ q h0 h r0 f0 xa
  · exact q.elim
theorem zx_put {l : Launch} {B : zd_B} {y : zd_Y} {pc k nx : Nat} {ty : FieldType} {K : zx_K} {ls : zd_V} {t : List Value} {a : zx} {x : Int32} {r : Int32 × Int32 × Int32} {Q : Option Value ⊕ Nat → zx → Prop} {h0 h : zd_H} (hc0 : narrow ty (.int x) = .int x ∧ fits ty (.int x) = true) (hk : k < 4) (hset : ∀ p, ([.ref p, .int a.2.1.1, .int a.2.1.2.1, .int a.2.1.2.2] : List Value).set k (.int x) = [.ref p, .int r.1, .int r.2.1, .int r.2.2]) (hok : zd_ok l B y pc (oc_putf B ty 6 k nx)) (hK : ∀ pc' ls' st' a', K pc' ls' st' a' → zx_W l B y pc' ls' st' a' Q) (r0 : Rm h0) (f0 : Fg B h0 h (xs B) 0) (xa : xi B h a) (q : K nx ls t (a.1, r, a.2.2)) : zd_W l B y pc (lsm B ls) ((.int x :: .ref 46 :: t).map (vm B)) h (zx_P B h0 Q) := by
  refine hok (fun pc ls st h => zd_W l B y pc ls st h (zx_P B h0 Q)) _ _ _ _ (fun _ _ _ _ z => z) ?_
  refine ⟨_, xa.2.2.1, hk, hc0, ?_⟩
  have ev : vm B (.int x) = .int x := rfl
  rw [ev, hset]
  have f1 : Fg B h (zd_set h (zd_b0 B + 46) (.inl (6, [.ref (zd_b0 B + 47), .int r.1, .int r.2.1, .int r.2.2]))) (fun q => q = zd_b0 B + 46) 0 := Fg.set rfl
  exact hK _ _ _ _ q h0 _ r0 (f0.tr0 (f1.mono (fun q e => Or.inr (by omega)))) (xa.n46 f1 ⟨xa.2.2.1.1, zd_set_s⟩)
/-- rough's scale; its sign; its note -/
def xm_puts (nx : Nat) : zx_S := fun K ls st a _ => match st with
  | .int x :: .ref r :: t => cond (Nat.beq r 46) (K nx ls t (a.1, (a.2.1.1, x, a.2.1.2.2), a.2.2)) False
  | _ => False
def xm_putn (nx : Nat) : zx_S := fun K ls st a _ => match st with
  | .int x :: .ref r :: t => cond (Nat.beq r 46) (∃ b, x = bI b ∧ K nx ls t (a.1, (bI b, a.2.1.2.1, a.2.1.2.2), a.2.2)) False
  | _ => False
def xm_putl (nx : Nat) : zx_S := fun K ls st a _ => match st with
  | .int x :: .ref r :: t => cond (Nat.beq r 46) (∃ b, x = bI b ∧ K nx ls t (a.1, (a.2.1.1, a.2.1.2.1, bI b), a.2.2)) False
  | _ => False
theorem ok_xputs {l : Launch} {B : zd_B} {y : zd_Y} {pc nx : Nat} (hok : zd_ok l B y pc (oc_putf B .int 6 2 nx)) : zx_ok l B y pc (xm_puts nx) := by
  intro K ls st a Q hK q h0 h r0 f0 xa
  unfold xm_puts at q
  split at q
  · rename_i x r t
    cases ha : Nat.beq r 46 with
    | false => rw [ha] at q; exact q.elim
    | true =>
      rw [ha] at q
      have e := Nat.eq_of_beq_eq_true ha
      subst e
      exact zx_put (r := (a.2.1.1, x, a.2.1.2.2)) ⟨rfl, rfl⟩ (by decide) (fun _ => rfl) hok hK r0 f0 xa q
  · exact q.elim
theorem ok_xputn {l : Launch} {B : zd_B} {y : zd_Y} {pc nx : Nat} (hok : zd_ok l B y pc (oc_putf B .boolean 6 1 nx)) : zx_ok l B y pc (xm_putn nx) := by
  intro K ls st a Q hK q h0 h r0 f0 xa
  unfold xm_putn at q
  split at q
  · rename_i x r t
    cases ha : Nat.beq r 46 with
    | false => rw [ha] at q; exact q.elim
    | true =>
      rw [ha] at q
      have e := Nat.eq_of_beq_eq_true ha
      subst e
      obtain ⟨b, e, q⟩ := q
      subst e
      exact zx_put (r := (bI b, a.2.1.2.1, a.2.1.2.2)) (by cases b <;> exact ⟨rfl, rfl⟩) (by decide) (fun _ => rfl) hok hK r0 f0 xa q
  · exact q.elim
theorem ok_xputl {l : Launch} {B : zd_B} {y : zd_Y} {pc nx : Nat} (hok : zd_ok l B y pc (oc_putf B .boolean 6 3 nx)) : zx_ok l B y pc (xm_putl nx) := by
  intro K ls st a Q hK q h0 h r0 f0 xa
  unfold xm_putl at q
  split at q
  · rename_i x r t
    cases ha : Nat.beq r 46 with
    | false => rw [ha] at q; exact q.elim
    | true =>
      rw [ha] at q
      have e := Nat.eq_of_beq_eq_true ha
      subst e
      obtain ⟨b, e, q⟩ := q
      subst e
      exact zx_put (r := (a.2.1.1, a.2.1.2.1, bI b)) (by cases b <;> exact ⟨rfl, rfl⟩) (by decide) (fun _ => rfl) hok hK r0 f0 xa q
  · exact q.elim
/-! calls, ends, throws -/
/-- an object of class ci stands there -/
def xrc (r ci : Nat) : Prop := ∀ (B : zd_B) (h : zd_H) (a : zx), xi B h a → ∃ fs, zd_Ob B h (zd_b0 B + r) ci fs
theorem rc_0 : xrc 0 0 := fun _ _ _ x => ⟨_, x.1.1⟩
theorem rc_46 : xrc 46 6 := fun _ _ _ x => ⟨_, x.2.2.1⟩
theorem rc_36 : xrc 36 2 := fun _ _ _ x => ⟨_, x.2.2.2.2.2.2.1⟩
theorem rc_39 : xrc 39 5 := fun _ _ _ x => ⟨_, x.2.2.2.2.2.2.2.2.1⟩
theorem rc_47 : xrc 47 4 := fun _ _ _ x => x.2.2.2.1.s.ob
theorem rc_49 : xrc 49 4 := fun _ _ _ x => x.2.2.2.2.1.s.ob
theorem rc_51 : xrc 51 4 := fun _ _ _ x => x.2.2.2.2.2.1.s.ob
theorem rc_d {i : Nat} (hi : i < 10) : xrc (2 + 3 * i) 1 := fun _ _ _ x => ⟨_, (x.2.1 i hi).1⟩
theorem rc_n {i : Nat} (hi : i < 10) : xrc (3 + 3 * i) 4 := fun B h a x => by
  have := (x.2.1 i hi).2.ob
  rw [show 2 + 3 * i + 1 = 3 + 3 * i by omega] at this
  exact this
def xm_calls (l : Launch) (B : zd_B) (y2 : zd_Y) (n nx : Nat) : zx_S := fun K ls st a Q => cond (Nat.beq (st.take n).length n && (Nat.ble ((st.drop n).map fun v => v.category).sum 8 && Nat.ble (lg_sl (st.take n).reverse).length (zd_yl y2))) (zx_M l B y2 (st.take n).reverse a (fun o a' => match o with
  | .inl v => K nx ls (v.toList ++ st.drop n) a'
  | .inr c => Q (.inr c) a')) False
def xm_callv (l : Launch) (B : zd_B) (ci : Nat) (y2 : zd_Y) (n nx : Nat) : zx_S := fun K ls st a Q => match st.drop n with
  | .ref r :: rest => cond (Nat.beq (st.take n).length n && (Nat.ble (rest.map fun v => v.category).sum 8 && Nat.ble (lg_sl (.ref r :: (st.take n).reverse)).length (zd_yl y2))) (xrc r ci ∧ zx_M l B y2 (.ref r :: (st.take n).reverse) a (fun o a' => match o with
    | .inl v => K nx ls (v.toList ++ rest) a'
    | .inr c => Q (.inr c) a')) False
  | _ => False
theorem zx_cont {l : Launch} {B : zd_B} {y : zd_Y} {h0 h : zd_H} {nx : Nat} {ls : zd_V} {rest : List Value} {K : zx_K} {Q : Option Value ⊕ Nat → zx → Prop} (r0 : Rm h0) (f0 : Fg B h0 h (xs B) 0) (hK : ∀ pc' ls' st' a', K pc' ls' st' a' → zx_W l B y pc' ls' st' a' Q) :
    ∀ x g, zx_P B h (fun o a' => match o with
      | .inl v => K nx ls (v.toList ++ rest) a'
      | .inr c => Q (.inr c) a') x g → zd_cont (fun pc ls st h => zd_W l B y pc ls st h (zx_P B h0 Q)) (zx_P B h0 Q) nx (lsm B ls) (rest.map (vm B)) x g := by
  rintro x g ⟨o, a, xa, q, e⟩
  cases o with
  | inl v =>
    obtain ⟨e1, e2⟩ := e
    subst e1
    have := hK _ _ _ _ q h0 g r0 (f0.tr0 e2) xa
    cases v <;> exact this
  | inr c =>
    obtain ⟨e1, e2, e3⟩ := e
    subst e1
    refine ⟨.inr c, a, xa, q, ?_⟩
    show Sum.inr (zd_b0 B + h.1, c) = Sum.inr (zd_b0 B + h0.1, c) ∧ Fg B h0 g (xs B) 1 ∧ g.2.2 (zd_b0 B + h0.1) = .inl (c, [])
    have e4 : h.1 = h0.1 := f0.1
    rw [e4] at e3 ⊢
    exact ⟨rfl, f0.tr2 e2, e3⟩
theorem zx_call {l : Launch} {B : zd_B} {y : zd_Y} {as : List Value} {h : zd_H} {a : zx} {Q : Option Value ⊕ Nat → zx → Prop} (hq : zx_M l B y as a Q) (r0 : Rm h) (xa : xi B h a) : zd_M l B y (as.map (vm B)) h (zx_P B h Q) := by
  have := hq h h r0 Fg.rf xa
  rw [pad_m, ent_m] at this
  exact this
theorem ok_xcalls {l : Launch} {B : zd_B} {y y2 : zd_Y} {pc n nx : Nat} (hok : zd_ok l B y pc (oc_calls l B y2 n nx)) : zx_ok l B y pc (xm_calls l B y2 n nx) := by
  intro K ls st a Q hK q h0 h r0 f0 xa
  unfold xm_calls at q
  cases hb : (Nat.beq (st.take n).length n && (Nat.ble ((st.drop n).map fun v => v.category).sum 8 && Nat.ble (lg_sl (st.take n).reverse).length (zd_yl y2))) with
  | false => rw [hb] at q; exact q.elim
  | true =>
    rw [hb] at q
    have q : zx_M l B y2 (st.take n).reverse a (fun o a' => match o with
      | .inl v => K nx ls (v.toList ++ st.drop n) a'
      | .inr c => Q (.inr c) a') := q
    simp only [Bool.and_eq_true] at hb
    obtain ⟨b1, b2, b3⟩ := hb
    have e1 : (st.map (vm B)).take n = (st.take n).map (vm B) := List.map_take.symm
    have e2 : (st.map (vm B)).drop n = (st.drop n).map (vm B) := List.map_drop.symm
    refine hok (fun pc ls st h => zd_W l B y pc ls st h (zx_P B h0 Q)) _ _ _ _ (fun _ _ _ _ z => z) ?_
    show (((st.map (vm B)).take n).length = n ∧ (((st.map (vm B)).drop n).map fun v => v.category).sum ≤ 8 ∧ (lg_sl ((st.map (vm B)).take n).reverse).length ≤ zd_yl y2) ∧ zd_M l B y2 ((st.map (vm B)).take n).reverse h (zd_cont _ (zx_P B h0 Q) nx (lsm B ls) ((st.map (vm B)).drop n))
    rw [e1, e2, cat_m, ← List.map_reverse, sl_m, List.length_map]
    exact ⟨⟨Nat.eq_of_beq_eq_true b1, Nat.le_of_ble_eq_true b2, Nat.le_of_ble_eq_true b3⟩, zd_W.post (zx_call q (r0.kept f0) xa) (zx_cont r0 f0 hK)⟩
theorem ok_xcallv {l : Launch} {B : zd_B} {y y2 : zd_Y} {pc n nx ci : Nat} (hok : zd_ok l B y pc (oc_callv l B ci y2 n nx)) : zx_ok l B y pc (xm_callv l B ci y2 n nx) := by
  intro K ls st a Q hK q h0 h r0 f0 xa
  unfold xm_callv at q
  split at q
  · rename_i r rest hd
    cases hb : (Nat.beq (st.take n).length n && (Nat.ble (rest.map fun v => v.category).sum 8 && Nat.ble (lg_sl (.ref r :: (st.take n).reverse)).length (zd_yl y2))) with
    | false => rw [hb] at q; exact q.elim
    | true =>
      rw [hb] at q
      have q : xrc r ci ∧ zx_M l B y2 (.ref r :: (st.take n).reverse) a (fun o a' => match o with
        | .inl v => K nx ls (v.toList ++ rest) a'
        | .inr c => Q (.inr c) a') := q
      simp only [Bool.and_eq_true] at hb
      obtain ⟨b1, b2, b3⟩ := hb
      have e1 : (st.map (vm B)).take n = (st.take n).map (vm B) := List.map_take.symm
      have e2 : (st.map (vm B)).drop n = .ref (zd_b0 B + r) :: rest.map (vm B) := by rw [← List.map_drop, hd]; rfl
      have e3 : Value.ref (zd_b0 B + r) :: ((st.take n).map (vm B)).reverse = (Value.ref r :: (st.take n).reverse).map (vm B) := by rw [← List.map_reverse]; rfl
      refine hok (fun pc ls st h => zd_W l B y pc ls st h (zx_P B h0 Q)) _ _ _ _ (fun _ _ _ _ z => z) ?_
      unfold oc_callv
      rw [e2]
      show (∃ fs, zd_Ob B h (zd_b0 B + r) ci fs) ∧ (((st.map (vm B)).take n).length = n ∧ ((rest.map (vm B)).map fun v => v.category).sum ≤ 8 ∧ (lg_sl (.ref (zd_b0 B + r) :: ((st.map (vm B)).take n).reverse)).length ≤ zd_yl y2) ∧ zd_M l B y2 (.ref (zd_b0 B + r) :: ((st.map (vm B)).take n).reverse) h (zd_cont _ (zx_P B h0 Q) nx (lsm B ls) (rest.map (vm B)))
      rw [e1, cat_m, e3, sl_m, List.length_map]
      exact ⟨q.1 B h a xa, ⟨Nat.eq_of_beq_eq_true b1, Nat.le_of_ble_eq_true b2, Nat.le_of_ble_eq_true b3⟩, zd_W.post (zx_call q.2 (r0.kept f0) xa) (zx_cont r0 f0 hK)⟩
  · exact q.elim
def xm_iret : zx_S := fun _ _ st a Q => match st with
  | [.int x] => Q (.inl (some (.int x))) a ∧ True
  | _ => False
def xm_zret : zx_S := fun _ _ st a Q => match st with
  | [.int x] => (∃ b, x = bI b ∧ Q (.inl (some (.int (bI b)))) a) ∧ True
  | _ => False
def xm_vret : zx_S := fun _ _ st a Q => match st with
  | [] => Q (.inl none) a ∧ True
  | _ => False
def xm_throw (ci : Nat) : zx_S := fun _ _ st a Q => cond (Nat.ble (st.map fun v => v.category).sum 8) (Q (.inr ci) a ∧ True) False
theorem ok_xiret {l : Launch} {B : zd_B} {y : zd_Y} {pc : Nat} (hok : zd_ok l B y pc (oc_iret .int)) : zx_ok l B y pc xm_iret := by
  intro K ls st a Q hK q h0 h r0 f0 xa
  unfold xm_iret at q
  split at q
  · exact hok (fun pc ls st h => zd_W l B y pc ls st h (zx_P B h0 Q)) _ _ _ _ (fun _ _ _ _ z => z) ⟨rfl, ⟨.inl (some (.int _)), a, xa, q.1, rfl, f0⟩, trivial⟩
  · exact q.elim
theorem ok_xzret {l : Launch} {B : zd_B} {y : zd_Y} {pc : Nat} (hok : zd_ok l B y pc (oc_iret .boolean)) : zx_ok l B y pc xm_zret := by
  intro K ls st a Q hK q h0 h r0 f0 xa
  unfold xm_zret at q
  split at q
  · obtain ⟨⟨b, e, q⟩, -⟩ := q
    subst e
    exact hok (fun pc ls st h => zd_W l B y pc ls st h (zx_P B h0 Q)) _ _ _ _ (fun _ _ _ _ z => z) ⟨narrow_b b, ⟨.inl (some (.int (bI b))), a, xa, q, rfl, f0⟩, trivial⟩
  · exact q.elim
theorem ok_xvret {l : Launch} {B : zd_B} {y : zd_Y} {pc : Nat} (hok : zd_ok l B y pc oc_vret) : zx_ok l B y pc xm_vret := by
  intro K ls st a Q hK q h0 h r0 f0 xa
  unfold xm_vret at q
  split at q
  · exact hok (fun pc ls st h => zd_W l B y pc ls st h (zx_P B h0 Q)) _ _ _ _ (fun _ _ _ _ z => z) ⟨⟨.inl none, a, xa, q.1, rfl, f0⟩, trivial⟩
  · exact q.elim
theorem Fg.push {B : zd_B} {h : zd_H} {S : Nat → Prop} {c : zd_C} : Fg B h (zd_push h (zd_b0 B + h.1) c 6) S 1 := ⟨rfl, by show h.2.1 + 6 = h.2.1 + 6 * 1; omega, fun q hq _ => if_neg (by omega)⟩
theorem ok_xthrow {l : Launch} {B : zd_B} {y : zd_Y} {pc ci : Nat} (hok : zd_ok l B y pc (oc_throw B ci)) : zx_ok l B y pc (xm_throw ci) := by
  intro K ls st a Q hK q h0 h r0 f0 xa
  unfold xm_throw at q
  cases hb : Nat.ble (st.map fun v => v.category).sum 8 with
  | false => rw [hb] at q; exact q.elim
  | true =>
    rw [hb] at q
    have q : Q (.inr ci) a ∧ True := q
    have rm := r0.kept f0
    refine hok (fun pc ls st h => zd_W l B y pc ls st h (zx_P B h0 Q)) _ _ _ _ (fun _ _ _ _ z => z) ⟨⟨?_, rm.1, rm.2⟩, ⟨.inr ci, a, ?_, q.1, ?_⟩, trivial⟩
    · rw [cat_m]; exact Nat.le_of_ble_eq_true hb
    · exact xa.kept (S := fun _ => False) Fg.push (fun _ _ z => z)
    · have e4 : h.1 = h0.1 := f0.1
      show Sum.inr (zd_b0 B + h.1, ci) = Sum.inr (zd_b0 B + h0.1, ci) ∧ _ ∧ _
      rw [e4]
      refine ⟨rfl, ?_, ?_⟩
      · have := f0.tr2 (Fg.push (B := B) (h := h) (S := xs B) (c := .inl (ci, [])))
        rw [e4] at this
        exact this
      · exact if_pos rfl

/-! a machine for the text: what is written so far; one register is looked at -/
/-- where the row stands, its length, the register, what it holds -/
abbrev tE : Type := Nat × Nat × Nat × zr
def ti (B : zd_B) (h : zd_H) (E : tE) (L : List Nat) : Prop := (34 < E.1 ∧ (E.1 = 35 ∨ 53 ≤ E.1) ∧ E.2.1 ≤ 11020 ∧ E.2.2.1 < 10) ∧ Tx B h E.1 E.2.1 L ∧ Dc B h (2 + 3 * E.2.2.1) E.2.2.2.1 E.2.2.2.2.1 E.2.2.2.2.2
theorem ti.reg {B : zd_B} {h : zd_H} {E : tE} {L : List Nat} (x : ti B h E L) : Nv B h (3 + 3 * E.2.2.1) 112 E.2.2.2.2.1 := by
  have := x.2.2.2
  rw [show 2 + 3 * E.2.2.1 + 1 = 3 + 3 * E.2.2.1 by omega] at this
  exact this
theorem ti.app {B : zd_B} {h h' : zd_H} {E : tE} {L L' : List Nat} (x : ti B h E L) (f : Fg B h h' (TS B E.1) 0) (t : Tx B h' E.1 E.2.1 L') : ti B h' E L' := by
  obtain ⟨⟨x1, x2, x3, x4⟩, y, z⟩ := x
  have hS : ∀ k, k < 34 → ¬ TS B E.1 (zd_b0 B + k) := fun k hk q => by rcases q with q | q <;> omega
  exact ⟨⟨x1, x2, x3, x4⟩, t, z.kept f (hS _ (by omega)) (hS _ (by omega)) (hS (2 + 3 * E.2.2.1 + 1 + 1) (by omega))⟩
def zt_P (B : zd_B) (E : tE) (h0 : zd_H) (Q : Option Value → List Nat → Prop) : zd_O → zd_H → Prop := fun x h => ∃ v L, ti B h E L ∧ Q v L ∧ x = .inl (v.map (vm B)) ∧ Fg B h0 h (TS B E.1) 0
def zt_W (l : Launch) (B : zd_B) (E : tE) (y : zd_Y) (pc : Nat) (ls : zd_V) (st : List Value) (a : List Nat) (Q : Option Value → List Nat → Prop) : Prop := ∀ h0 h : zd_H, Fg B h0 h (TS B E.1) 0 → ti B h E a → zd_W l B y pc (lsm B ls) (st.map (vm B)) h (zt_P B E h0 Q)
def zt_M (l : Launch) (B : zd_B) (E : tE) (y : zd_Y) (as : List Value) (a : List Nat) (Q : Option Value → List Nat → Prop) : Prop := zt_W l B E y 0 (zd_pad (zd_yl y) (zd_ent as)) [] a Q
abbrev zt_K : Type := Nat → zd_V → List Value → List Nat → Prop
abbrev zt_S : Type := zt_K → zd_V → List Value → List Nat → (Option Value → List Nat → Prop) → Prop
def zt_ok (l : Launch) (B : zd_B) (E : tE) (y : zd_Y) (pc : Nat) (f : zt_S) : Prop := ∀ (K : zt_K) (ls : zd_V) (st : List Value) (a : List Nat) (Q : Option Value → List Nat → Prop), (∀ pc' ls' st' a', K pc' ls' st' a' → zt_W l B E y pc' ls' st' a' Q) → f K ls st a Q → zt_W l B E y pc ls st a Q
def zt_lk : List (Nat × zt_S) → Nat → Option zt_S
  | [], _ => none
  | q :: r, pc => cond (Nat.beq q.1 pc) (some q.2) (zt_lk r pc)
def zt_b (l : Launch) (B : zd_B) (E : tE) (y : zd_Y) (cd : List (Nat × zt_S)) (stop : List Nat) (Q : Option Value → List Nat → Prop) (n : Nat) : zt_K :=
  @Nat.rec (fun _ => zt_K) (fun pc ls st a => zt_W l B E y pc ls st a Q ∧ True) (fun _ ih pc ls st a => cond (zd_isin stop pc) (zt_W l B E y pc ls st a Q ∧ True) (match zt_lk cd pc with
    | some f => f ih ls st a Q
    | none => False)) n
def zt_g (l : Launch) (B : zd_B) (E : tE) (y : zd_Y) (cd : List (Nat × zt_S)) (stop : List Nat) (n : Nat) : zd_V → List Value → List Nat → (Option Value → List Nat → Prop) → Nat → Prop := fun ls st a Q pc => zd_fl ls (fun ls =>
  match zt_lk cd pc with
    | some f => f (zt_b l B E y cd stop Q n) ls st a Q
    | none => False)
theorem zt_lk_in {cd : List (Nat × zt_S)} {pc : Nat} {f : zt_S} (h : zt_lk cd pc = some f) : (pc, f) ∈ cd := by
  induction cd with
  | nil => cases h
  | cons q r ih =>
    unfold zt_lk at h
    cases hq : Nat.beq q.1 pc with
    | true =>
      rw [hq] at h
      have e1 : q.2 = f := Option.some.inj h
      have e2 : q.1 = pc := Nat.eq_of_beq_eq_true hq
      rw [← e1, ← e2]
      exact List.mem_cons_self
    | false =>
      rw [hq] at h
      exact List.mem_cons_of_mem _ (ih h)
theorem zt_b_ok {l : Launch} {B : zd_B} {E : tE} {y : zd_Y} {cd : List (Nat × zt_S)} (hcd : ∀ q ∈ cd, zt_ok l B E y q.1 q.2) {stop : List Nat} {Q : Option Value → List Nat → Prop} (n : Nat) :
    ∀ pc ls st a, zt_b l B E y cd stop Q n pc ls st a → zt_W l B E y pc ls st a Q := by
  induction n with
  | zero => exact fun pc ls st a q => q.1
  | succ n ih =>
    intro pc ls st a q
    have q' : cond (zd_isin stop pc) (zt_W l B E y pc ls st a Q ∧ True) (match zt_lk cd pc with
      | some f => f (zt_b l B E y cd stop Q n) ls st a Q
      | none => False) := q
    cases hs : zd_isin stop pc with
    | true => rw [hs] at q'; exact q'.1
    | false =>
      rw [hs] at q'
      have q2 : (match zt_lk cd pc with
        | some f => f (zt_b l B E y cd stop Q n) ls st a Q
        | none => False) := q'
      cases hf : zt_lk cd pc with
      | none => rw [hf] at q2; exact q2.elim
      | some f =>
        rw [hf] at q2
        exact hcd _ (zt_lk_in hf) _ ls st a Q ih q2
theorem zt_go {l : Launch} {B : zd_B} {E : tE} {y : zd_Y} {cd : List (Nat × zt_S)} (hcd : ∀ q ∈ cd, zt_ok l B E y q.1 q.2) (stop : List Nat) (n : Nat) {Q : Option Value → List Nat → Prop} {pc : Nat} {ls : zd_V} {st : List Value} {a : List Nat}
    (q : zt_g l B E y cd stop n ls st a Q pc) : zt_W l B E y pc ls st a Q := by
  unfold zt_g at q
  have q : (match zt_lk cd pc with
    | some f => f (zt_b l B E y cd stop Q n) ls st a Q
    | none => False) := zd_fl_eq q
  cases hf : zt_lk cd pc with
  | none => rw [hf] at q; exact q.elim
  | some f =>
    rw [hf] at q
    exact hcd _ (zt_lk_in hf) _ ls st a Q (zt_b_ok hcd n) q
theorem zt_ac {l : Launch} {B : zd_B} {E : tE} {y : zd_Y} {q : Nat × zt_S} {r : List (Nat × zt_S)} (h : zt_ok l B E y q.1 q.2) (t : ∀ x ∈ r, zt_ok l B E y x.1 x.2) : ∀ x ∈ q :: r, zt_ok l B E y x.1 x.2 := fun x hx => (List.mem_cons.mp hx).elim (fun e => by rw [e]; exact h) (t x)
theorem zt_an {l : Launch} {B : zd_B} {E : tE} {y : zd_Y} : ∀ x ∈ ([] : List (Nat × zt_S)), zt_ok l B E y x.1 x.2 := fun x hx => by cases hx
def tm_p (f : zd_S) : zt_S := fun K ls st a _ => f (fun pc ls st _ => K pc ls st a) ls st (0, 0, fun _ => .inl (0, [])) (fun _ _ => False)
theorem tm_pk {l : Launch} {B : zd_B} {E : tE} {y : zd_Y} {pc : Nat} {f : zd_S} (hn : zm_nt f) (hok : zd_ok l B y pc f) : zt_ok l B E y pc (tm_p f) := by
  intro K ls st a Q hK q h0 h f0 xa
  refine hok (fun pc ls st h => zd_W l B y pc ls st h (zt_P B E h0 Q)) _ _ _ _ (fun _ _ _ _ z => z) ?_
  exact hn B (fun pc ls st => K pc ls st a) _ ls st _ _ _ _ (fun pc ls st z => hK pc ls st a z h0 h f0 xa) q
/-- the register's fields -/
def tcf (E : tE) (k : Nat) : Option Value := ([.ref (3 + 3 * E.2.2.1), .int (bI E.2.2.2.1), .int (iI E.2.2.2.2.2)] : List Value)[k]?
def tm_getc (E : tE) (k nx : Nat) : zt_S := fun K ls st a _ => match st with
  | .ref r :: t => r = (2 + 3 * E.2.2.1 : Nat) ∧ (match tcf E k with
    | some v => K nx ls (v :: t) a
    | none => False)
  | _ => False
theorem ok_tgetc {l : Launch} {B : zd_B} {E : tE} {y : zd_Y} {pc k nx : Nat} (hok : zd_ok l B y pc (oc_getf B 1 k nx)) : zt_ok l B E y pc (tm_getc E k nx) := by
  intro K ls st a Q hK q h0 h f0 xa
  unfold tm_getc at q
  split at q
  · rename_i r t
    obtain ⟨e, q⟩ := q
    subst e
    split at q
    · rename_i v hv
      refine hok (fun pc ls st h => zd_W l B y pc ls st h (zt_P B E h0 Q)) _ _ _ _ (fun _ _ _ _ z => z) ?_
      refine ⟨_, xa.2.2.1, ?_⟩
      have e2 : ([.ref (zd_b0 B + (2 + 3 * E.2.2.1 + 1)), .int (bI E.2.2.2.1), .int (iI E.2.2.2.2.2)] : List Value) = ([.ref (3 + 3 * E.2.2.1), .int (bI E.2.2.2.1), .int (iI E.2.2.2.2.2)] : List Value).map (vm B) := by
        show _ = [Value.ref (zd_b0 B + (3 + 3 * E.2.2.1)), Value.int (bI E.2.2.2.1), Value.int (iI E.2.2.2.2.2)]
        rw [show 2 + 3 * E.2.2.1 + 1 = 3 + 3 * E.2.2.1 by omega]
      unfold tcf at hv
      rw [e2, List.getElem?_map, hv]
      exact hK _ _ _ _ q h0 h f0 xa
    · exact q.elim
  · exact q.elim
/-- how long the text is -/
def tm_getl (k nx : Nat) : zt_S := fun K ls st a _ => match st with
  | .ref r :: t => cond (Nat.beq r 34 && Nat.beq k 1) (K nx ls (.int (nI a.length) :: t) a) False
  | _ => False
theorem ok_tgetl {l : Launch} {B : zd_B} {E : tE} {y : zd_Y} {pc k nx : Nat} (hok : zd_ok l B y pc (oc_getf B 7 k nx)) : zt_ok l B E y pc (tm_getl k nx) := by
  intro K ls st a Q hK q h0 h f0 xa
  unfold tm_getl at q
  split at q
  · rename_i r t
    cases ha : (Nat.beq r 34 && Nat.beq k 1) with
    | false => rw [ha] at q; exact q.elim
    | true =>
      rw [ha] at q
      have q : K nx ls (.int (nI a.length) :: t) a := q
      rw [Bool.and_eq_true] at ha
      have e := Nat.eq_of_beq_eq_true ha.1
      have e1 := Nat.eq_of_beq_eq_true ha.2
      subst e
      subst e1
      obtain ⟨f, t1, t2, t3, t4⟩ := id xa.2.1
      refine hok (fun pc ls st h => zd_W l B y pc ls st h (zt_P B E h0 Q)) _ _ _ _ (fun _ _ _ _ z => z) ?_
      refine ⟨_, t1, ?_⟩
      exact hK _ _ _ _ q h0 h f0 xa
  · exact q.elim
def trc (E : tE) (r ci : Nat) : Prop := ∀ (B : zd_B) (h : zd_H) (a : List Nat), ti B h E a → ∃ fs, zd_Ob B h (zd_b0 B + r) ci fs
theorem tc_34 {E : tE} : trc E 34 7 := fun _ _ _ x => x.2.1.elim fun _ z => ⟨_, z.1⟩
theorem tc_n {E : tE} : trc E (3 + 3 * E.2.2.1) 4 := fun _ _ _ x => x.reg.ob
def tm_calls (l : Launch) (B : zd_B) (E : tE) (y2 : zd_Y) (n nx : Nat) : zt_S := fun K ls st a _ => cond (Nat.beq (st.take n).length n && (Nat.ble ((st.drop n).map fun v => v.category).sum 8 && Nat.ble (lg_sl (st.take n).reverse).length (zd_yl y2))) (zt_M l B E y2 (st.take n).reverse a (fun v a' => K nx ls (v.toList ++ st.drop n) a')) False
def tm_callv (l : Launch) (B : zd_B) (E : tE) (ci : Nat) (y2 : zd_Y) (n nx : Nat) : zt_S := fun K ls st a _ => match st.drop n with
  | .ref r :: rest => cond (Nat.beq (st.take n).length n && (Nat.ble (rest.map fun v => v.category).sum 8 && Nat.ble (lg_sl (.ref r :: (st.take n).reverse)).length (zd_yl y2))) (trc E r ci ∧ zt_M l B E y2 (.ref r :: (st.take n).reverse) a (fun v a' => K nx ls (v.toList ++ rest) a')) False
  | _ => False
theorem zt_cont {l : Launch} {B : zd_B} {E : tE} {y : zd_Y} {h0 h : zd_H} {nx : Nat} {ls : zd_V} {rest : List Value} {K : zt_K} {Q : Option Value → List Nat → Prop} (f0 : Fg B h0 h (TS B E.1) 0) (hK : ∀ pc' ls' st' a', K pc' ls' st' a' → zt_W l B E y pc' ls' st' a' Q) :
    ∀ x g, zt_P B E h (fun v a' => K nx ls (v.toList ++ rest) a') x g → zd_cont (fun pc ls st h => zd_W l B y pc ls st h (zt_P B E h0 Q)) (zt_P B E h0 Q) nx (lsm B ls) (rest.map (vm B)) x g := by
  rintro x g ⟨v, a, xa, q, e1, e2⟩
  subst e1
  have := hK _ _ _ _ q h0 g (f0.tr0 e2) xa
  cases v <;> exact this
theorem zt_call {l : Launch} {B : zd_B} {E : tE} {y : zd_Y} {as : List Value} {h : zd_H} {a : List Nat} {Q : Option Value → List Nat → Prop} (hq : zt_M l B E y as a Q) (xa : ti B h E a) : zd_M l B y (as.map (vm B)) h (zt_P B E h Q) := by
  have := hq h h Fg.rf xa
  rw [pad_m, ent_m] at this
  exact this
theorem ok_tcalls {l : Launch} {B : zd_B} {E : tE} {y y2 : zd_Y} {pc n nx : Nat} (hok : zd_ok l B y pc (oc_calls l B y2 n nx)) : zt_ok l B E y pc (tm_calls l B E y2 n nx) := by
  intro K ls st a Q hK q h0 h f0 xa
  unfold tm_calls at q
  cases hb : (Nat.beq (st.take n).length n && (Nat.ble ((st.drop n).map fun v => v.category).sum 8 && Nat.ble (lg_sl (st.take n).reverse).length (zd_yl y2))) with
  | false => rw [hb] at q; exact q.elim
  | true =>
    rw [hb] at q
    have q : zt_M l B E y2 (st.take n).reverse a (fun v a' => K nx ls (v.toList ++ st.drop n) a') := q
    simp only [Bool.and_eq_true] at hb
    obtain ⟨b1, b2, b3⟩ := hb
    have e1 : (st.map (vm B)).take n = (st.take n).map (vm B) := List.map_take.symm
    have e2 : (st.map (vm B)).drop n = (st.drop n).map (vm B) := List.map_drop.symm
    refine hok (fun pc ls st h => zd_W l B y pc ls st h (zt_P B E h0 Q)) _ _ _ _ (fun _ _ _ _ z => z) ?_
    show (((st.map (vm B)).take n).length = n ∧ (((st.map (vm B)).drop n).map fun v => v.category).sum ≤ 8 ∧ (lg_sl ((st.map (vm B)).take n).reverse).length ≤ zd_yl y2) ∧ zd_M l B y2 ((st.map (vm B)).take n).reverse h (zd_cont _ (zt_P B E h0 Q) nx (lsm B ls) ((st.map (vm B)).drop n))
    rw [e1, e2, cat_m, ← List.map_reverse, sl_m, List.length_map]
    exact ⟨⟨Nat.eq_of_beq_eq_true b1, Nat.le_of_ble_eq_true b2, Nat.le_of_ble_eq_true b3⟩, zd_W.post (zt_call q xa) (zt_cont f0 hK)⟩
theorem ok_tcallv {l : Launch} {B : zd_B} {E : tE} {y y2 : zd_Y} {pc n nx ci : Nat} (hok : zd_ok l B y pc (oc_callv l B ci y2 n nx)) : zt_ok l B E y pc (tm_callv l B E ci y2 n nx) := by
  intro K ls st a Q hK q h0 h f0 xa
  unfold tm_callv at q
  split at q
  · rename_i r rest hd
    cases hb : (Nat.beq (st.take n).length n && (Nat.ble (rest.map fun v => v.category).sum 8 && Nat.ble (lg_sl (.ref r :: (st.take n).reverse)).length (zd_yl y2))) with
    | false => rw [hb] at q; exact q.elim
    | true =>
      rw [hb] at q
      have q : trc E r ci ∧ zt_M l B E y2 (.ref r :: (st.take n).reverse) a (fun v a' => K nx ls (v.toList ++ rest) a') := q
      simp only [Bool.and_eq_true] at hb
      obtain ⟨b1, b2, b3⟩ := hb
      have e1 : (st.map (vm B)).take n = (st.take n).map (vm B) := List.map_take.symm
      have e2 : (st.map (vm B)).drop n = .ref (zd_b0 B + r) :: rest.map (vm B) := by rw [← List.map_drop, hd]; rfl
      have e3 : Value.ref (zd_b0 B + r) :: ((st.take n).map (vm B)).reverse = (Value.ref r :: (st.take n).reverse).map (vm B) := by rw [← List.map_reverse]; rfl
      refine hok (fun pc ls st h => zd_W l B y pc ls st h (zt_P B E h0 Q)) _ _ _ _ (fun _ _ _ _ z => z) ?_
      unfold oc_callv
      rw [e2]
      show (∃ fs, zd_Ob B h (zd_b0 B + r) ci fs) ∧ (((st.map (vm B)).take n).length = n ∧ ((rest.map (vm B)).map fun v => v.category).sum ≤ 8 ∧ (lg_sl (.ref (zd_b0 B + r) :: ((st.map (vm B)).take n).reverse)).length ≤ zd_yl y2) ∧ zd_M l B y2 (.ref (zd_b0 B + r) :: ((st.map (vm B)).take n).reverse) h (zd_cont _ (zt_P B E h0 Q) nx (lsm B ls) (rest.map (vm B)))
      rw [e1, cat_m, e3, sl_m, List.length_map]
      exact ⟨q.1 B h a xa, ⟨Nat.eq_of_beq_eq_true b1, Nat.le_of_ble_eq_true b2, Nat.le_of_ble_eq_true b3⟩, zd_W.post (zt_call q.2 xa) (zt_cont f0 hK)⟩
  · exact q.elim
def tm_iret : zt_S := fun _ _ st a Q => match st with
  | [.int x] => Q (some (.int x)) a ∧ True
  | _ => False
def tm_vret : zt_S := fun _ _ st a Q => match st with
  | [] => Q none a ∧ True
  | _ => False
theorem ok_tiret {l : Launch} {B : zd_B} {E : tE} {y : zd_Y} {pc : Nat} (hok : zd_ok l B y pc (oc_iret .int)) : zt_ok l B E y pc tm_iret := by
  intro K ls st a Q hK q h0 h f0 xa
  unfold tm_iret at q
  split at q
  · exact hok (fun pc ls st h => zd_W l B y pc ls st h (zt_P B E h0 Q)) _ _ _ _ (fun _ _ _ _ z => z) ⟨rfl, ⟨some (.int _), a, xa, q.1, rfl, f0⟩, trivial⟩
  · exact q.elim
theorem ok_tvret {l : Launch} {B : zd_B} {E : tE} {y : zd_Y} {pc : Nat} (hok : zd_ok l B y pc oc_vret) : zt_ok l B E y pc tm_vret := by
  intro K ls st a Q hK q h0 h f0 xa
  unfold tm_vret at q
  split at q
  · exact hok (fun pc ls st h => zd_W l B y pc ls st h (zt_P B E h0 Q)) _ _ _ _ (fun _ _ _ _ z => z) ⟨⟨none, a, xa, q.1, rfl, f0⟩, trivial⟩
  · exact q.elim
/-! what the methods outside do -/
section XF
variable {l : Launch} {B : zd_B} {Q : Option Value → List Nat → Prop} {E : tE} {L : List Nat}
theorem t_append (hG : zd_G B) (hl : l.stackTraces = false) {c : Nat} (hc : c < 65536) (hL : L.length < E.2.1) (hq : Q none (L ++ [c])) : zt_M l B E m_Te_append [.ref 34, .int (nI c)] L Q := by
  intro h0 h f0 xa
  rw [pad_m, ent_m]
  exact te_append hG hl xa.1.1 xa.2.1 xa.1.2.2.1 hL hc (fun h' f t => ⟨none, _, xa.app f t, hq, rfl, f0.tr0 f⟩)
theorem t_power (hG : zd_G B) (hl : l.stackTraces = false) {e : Int} (he : -50000 < e ∧ e < 50000) (hL : L.length + 12 ≤ E.2.1) (hq : Q none (L ++ (if e = 0 then [] else expo e))) : zt_M l B E m_Te_appendPower [.ref 34, .int (iI e)] L Q := by
  intro h0 h f0 xa
  rw [pad_m, ent_m]
  exact te_power hG hl he xa.1.1 xa.2.1 xa.1.2.2.1 hL (fun h' f t => ⟨none, _, xa.app f t, hq, rfl, f0.tr0 f⟩)
theorem t_digits (hG : zd_G B) (hl : l.stackTraces = false) (hq : Q (some (.int (nI (dg E.2.2.2.2.1)))) L) : zt_M l B E m_Na_digits [.ref (3 + 3 * E.2.2.1 : Nat)] L Q := by
  intro h0 h f0 xa
  rw [pad_m, ent_m]
  exact v_digits hG hl xa.reg ⟨some (.int (nI (dg E.2.2.2.2.1))), L, xa, hq, rfl, f0⟩
theorem t_digitAt (hG : zd_G B) (hl : l.stackTraces = false) {p : Nat} (hp : p < 2 ^ 31) (hq : Q (some (.int (nI (E.2.2.2.2.1 / 10 ^ p % 10)))) L) : zt_M l B E m_Na_digitAt [.ref (3 + 3 * E.2.2.1 : Nat), .int (nI p)] L Q := by
  intro h0 h f0 xa
  rw [pad_m, ent_m]
  exact v_digitAt hG hl xa.reg hp ⟨some (.int (nI (E.2.2.2.2.1 / 10 ^ p % 10))), L, xa, hq, rfl, f0⟩
theorem t_isZero (hG : zd_G B) (hl : l.stackTraces = false) (hq : Q (some (.int (bI (decide (E.2.2.2.2.1 = 0))))) L) : zt_M l B E m_Na_isZero [.ref (3 + 3 * E.2.2.1 : Nat)] L Q := by
  intro h0 h f0 xa
  rw [pad_m, ent_m]
  refine v_isZero hG hl xa.reg ?_
  rw [show (if E.2.2.2.2.1 = 0 then (1 : Int32) else 0) = bI (decide (E.2.2.2.2.1 = 0)) by by_cases e : E.2.2.2.2.1 = 0 <;> simp [e, bI]]
  exact ⟨some (.int (bI (decide (E.2.2.2.2.1 = 0)))), L, xa, hq, rfl, f0⟩
theorem t_min (hG : zd_G B) (hl : l.stackTraces = false) {x y : Int} (hx : iR x) (hy : iR y) (hq : Q (some (.int (iI (min x y)))) L) : zt_M l B E m_Ma_min [.int (iI x), .int (iI y)] L Q := by
  intro h0 h f0 xa
  rw [pad_m, ent_m]
  refine c_Ma_min hG hl ?_
  rw [show (if iI y < iI x then iI y else iI x) = iI (min x y) by
    simp only [iI_lt hy hx]
    split
    · rw [show min x y = y by omega]
    · rw [show min x y = x by omega]]
  exact ⟨some (.int (iI (min x y))), L, xa, hq, rfl, f0⟩
theorem t_fmod (hG : zd_G B) (hl : l.stackTraces = false) {x y : Int} (hx : iR x) (hy : iR y) (h1 : 0 < y) (hq : Q (some (.int (iI (x % y)))) L) : zt_M l B E m_Ma_floorMod [.int (iI x), .int (iI y)] L Q := by
  intro h0 h f0 xa
  rw [pad_m, ent_m]
  exact c_Ma_floorMod hG hl hx hy h1 ⟨some (.int (iI (x % y))), L, xa, hq, rfl, f0⟩
end XF

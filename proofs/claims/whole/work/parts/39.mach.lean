/-! a machine for the cells of one object and its rows: references by their place since the start -/
/-- the group: where the object stands, its class, its rows behind it (kind, length) -/
abbrev zg : Type := Nat × Nat × List (Nat × Nat)
/-- its fields, its rows -/
abbrev zst : Type := List Value × List (Nat → Int32)
def vm (B : zd_B) (v : Value) : Value := match v with
  | .ref k => .ref (zd_b0 B + k)
  | w => w
def lsm (B : zd_B) (ls : zd_V) : zd_V := ls.map (Option.map (vm B))
def mh (B : zd_B) (D : zg) (h0 : zd_H) (m : zst) : zd_H := (h0.1, h0.2.1, fun q => if q = zd_b0 B + D.1 then .inl (D.2.1, m.1.map (vm B)) else if zd_b0 B + D.1 + 1 ≤ q then (match D.2.2[q - (zd_b0 B + D.1 + 1)]?, m.2[q - (zd_b0 B + D.1 + 1)]? with
  | some n, some f => .inr (.inl (n.1, n.2, f))
  | _, _ => h0.2.2 q) else h0.2.2 q)
/-- the outcome: no exceptions here -/
def zm_P (B : zd_B) (D : zg) (h0 : zd_H) (Q : Option Value → zst → Prop) : zd_O → zd_H → Prop := fun x h => ∃ v m, x = .inl (v.map (vm B)) ∧ h = mh B D h0 m ∧ Q v m
def zm_W (l : Launch) (B : zd_B) (D : zg) (y : zd_Y) (pc : Nat) (ls : zd_V) (st : List Value) (m : zst) (Q : Option Value → zst → Prop) : Prop := ∀ h0 : zd_H, D.1 + D.2.2.length + 1 ≤ h0.1 → zd_W l B y pc (lsm B ls) (st.map (vm B)) (mh B D h0 m) (zm_P B D h0 Q)
def zm_M (l : Launch) (B : zd_B) (D : zg) (y : zd_Y) (as : List Value) (m : zst) (Q : Option Value → zst → Prop) : Prop := zm_W l B D y 0 (zd_pad (zd_yl y) (zd_ent as)) [] m Q
abbrev zm_K : Type := Nat → zd_V → List Value → zst → Prop
abbrev zm_S : Type := zm_K → zd_V → List Value → zst → (Option Value → zst → Prop) → Prop
def zm_ok (l : Launch) (B : zd_B) (D : zg) (y : zd_Y) (pc : Nat) (f : zm_S) : Prop := ∀ (K : zm_K) (ls : zd_V) (st : List Value) (m : zst) (Q : Option Value → zst → Prop), (∀ pc' ls' st' m', K pc' ls' st' m' → zm_W l B D y pc' ls' st' m' Q) → f K ls st m Q → zm_W l B D y pc ls st m Q
def zm_lk : List (Nat × zm_S) → Nat → Option zm_S
  | [], _ => none
  | q :: r, pc => cond (Nat.beq q.1 pc) (some q.2) (zm_lk r pc)
def zm_b (l : Launch) (B : zd_B) (D : zg) (y : zd_Y) (cd : List (Nat × zm_S)) (stop : List Nat) (Q : Option Value → zst → Prop) (n : Nat) : zm_K :=
  @Nat.rec (fun _ => zm_K) (fun pc ls st m => zm_W l B D y pc ls st m Q ∧ True) (fun _ ih pc ls st m => cond (zd_isin stop pc) (zm_W l B D y pc ls st m Q ∧ True) (match zm_lk cd pc with
    | some f => f ih ls st m Q
    | none => False)) n
/-- a list written out -/
def zl_fl {α : Type} (ls : List α) (k : List α → Prop) : Prop := @List.rec α (fun _ => (List α → Prop) → Prop) (fun k => k []) (fun x _ ih k => ih (fun s => k (x :: s))) ls k
theorem zl_fl_eq {α : Type} {ls : List α} {k : List α → Prop} (q : zl_fl ls k) : k ls := by
  induction ls generalizing k with
  | nil => exact q
  | cons x r ih => exact ih (k := fun s => k (x :: s)) q
def zm_g (l : Launch) (B : zd_B) (D : zg) (y : zd_Y) (cd : List (Nat × zm_S)) (stop : List Nat) (n : Nat) : zd_V → List Value → zst → (Option Value → zst → Prop) → Nat → Prop := fun ls st m Q pc => zd_fl ls (fun ls => zl_fl m.1 (fun fs => zl_fl m.2 (fun as =>
  match zm_lk cd pc with
    | some f => f (zm_b l B D y cd stop Q n) ls st (fs, as) Q
    | none => False)))
theorem zm_lk_in {cd : List (Nat × zm_S)} {pc : Nat} {f : zm_S} (h : zm_lk cd pc = some f) : (pc, f) ∈ cd := by
  induction cd with
  | nil => cases h
  | cons q r ih =>
    unfold zm_lk at h
    cases hq : Nat.beq q.1 pc with
    | true =>
      rw [hq] at h
      have e1 : q.2 = f := Option.some.inj h
      have e2 : q.1 = pc := Nat.eq_of_beq_eq_true hq
      rw [← e1, ← e2]
      exact List.mem_cons_self
    | false =>
      rw [hq] at h
      exact List.mem_cons_of_mem _ (ih h)
theorem zm_b_ok {l : Launch} {B : zd_B} {D : zg} {y : zd_Y} {cd : List (Nat × zm_S)} (hcd : ∀ q ∈ cd, zm_ok l B D y q.1 q.2) {stop : List Nat} {Q : Option Value → zst → Prop} (n : Nat) :
    ∀ pc ls st m, zm_b l B D y cd stop Q n pc ls st m → zm_W l B D y pc ls st m Q := by
  induction n with
  | zero => exact fun pc ls st m q => q.1
  | succ n ih =>
    intro pc ls st m q
    have q' : cond (zd_isin stop pc) (zm_W l B D y pc ls st m Q ∧ True) (match zm_lk cd pc with
      | some f => f (zm_b l B D y cd stop Q n) ls st m Q
      | none => False) := q
    cases hs : zd_isin stop pc with
    | true => rw [hs] at q'; exact q'.1
    | false =>
      rw [hs] at q'
      have q2 : (match zm_lk cd pc with
        | some f => f (zm_b l B D y cd stop Q n) ls st m Q
        | none => False) := q'
      cases hf : zm_lk cd pc with
      | none => rw [hf] at q2; exact q2.elim
      | some f =>
        rw [hf] at q2
        exact hcd _ (zm_lk_in hf) _ ls st m Q ih q2
theorem zm_go {l : Launch} {B : zd_B} {D : zg} {y : zd_Y} {cd : List (Nat × zm_S)} (hcd : ∀ q ∈ cd, zm_ok l B D y q.1 q.2) (stop : List Nat) (n : Nat) {Q : Option Value → zst → Prop} {pc : Nat} {ls : zd_V} {st : List Value} {m : zst}
    (q : zm_g l B D y cd stop n ls st m Q pc) : zm_W l B D y pc ls st m Q := by
  unfold zm_g at q
  have q : (match zm_lk cd pc with
    | some f => f (zm_b l B D y cd stop Q n) ls st m Q
    | none => False) := zl_fl_eq (zl_fl_eq (zd_fl_eq q))
  cases hf : zm_lk cd pc with
  | none => rw [hf] at q; exact q.elim
  | some f =>
    rw [hf] at q
    exact hcd _ (zm_lk_in hf) _ ls st m Q (zm_b_ok hcd n) q
theorem zm_ac {l : Launch} {B : zd_B} {D : zg} {y : zd_Y} {q : Nat × zm_S} {r : List (Nat × zm_S)} (h : zm_ok l B D y q.1 q.2) (t : ∀ x ∈ r, zm_ok l B D y x.1 x.2) : ∀ x ∈ q :: r, zm_ok l B D y x.1 x.2 := fun x hx => (List.mem_cons.mp hx).elim (fun e => by rw [e]; exact h) (t x)
theorem zm_an {l : Launch} {B : zd_B} {D : zg} {y : zd_Y} : ∀ x ∈ ([] : List (Nat × zm_S)), zm_ok l B D y x.1 x.2 := fun x hx => by cases hx
/-! the locals and the mapping -/
theorem vm_cat (B : zd_B) (v : Value) : (vm B v).category = v.category := by cases v <;> rfl
theorem lsm_get {B : zd_B} {ls : zd_V} {i : Nat} {v : Value} (h : ls[i]? = some (some v)) : (lsm B ls)[i]? = some (some (vm B v)) := by
  unfold lsm
  rw [List.getElem?_map, h]
  rfl
theorem lsm_cut (B : zd_B) (ls : zd_V) (i : Nat) : lsm B (zd_cut ls i) = zd_cut (lsm B ls) i := by
  unfold zd_cut
  cases i with
  | zero => rfl
  | succ j =>
    show lsm B (match ls[j]? with
      | some (some v) => cond (Nat.beq v.category 2) (ls.set j none) ls
      | _ => ls) = (match (lsm B ls)[j]? with
      | some (some v) => cond (Nat.beq v.category 2) ((lsm B ls).set j none) (lsm B ls)
      | _ => lsm B ls)
    have e : (lsm B ls)[j]? = (ls[j]?).map (Option.map (vm B)) := by unfold lsm; rw [List.getElem?_map]
    rw [e]
    cases hj : ls[j]? with
    | none => rfl
    | some o =>
      cases o with
      | none => rfl
      | some v =>
        show lsm B (cond (Nat.beq v.category 2) (ls.set j none) ls) = cond (Nat.beq (vm B v).category 2) ((lsm B ls).set j none) (lsm B ls)
        rw [vm_cat]
        cases Nat.beq v.category 2
        · rfl
        · show lsm B (ls.set j none) = (lsm B ls).set j none
          unfold lsm
          rw [List.map_set]
          rfl
theorem lsm_st1 (B : zd_B) (ls : zd_V) (i : Nat) (v : Value) : lsm B (zd_st1 ls i v) = zd_st1 (lsm B ls) i (vm B v) := by
  unfold zd_st1
  rw [← lsm_cut]
  unfold lsm
  rw [List.map_set]
  rfl
theorem lsm_st2 (B : zd_B) (ls : zd_V) (i : Nat) (v : Value) : lsm B (zd_st2 ls i v) = zd_st2 (lsm B ls) i (vm B v) := by
  unfold zd_st2
  rw [← lsm_cut]
  unfold lsm
  rw [List.map_set, List.map_set]
  rfl
theorem zd_fl_mk {ls : zd_V} {k : zd_V → Prop} (q : k ls) : zd_fl ls k := by
  induction ls generalizing k with
  | nil => exact q
  | cons x r ih => exact ih (k := fun s => k (x :: s)) q
theorem ent_m (B : zd_B) (as : List Value) : lsm B (zd_ent as) = zd_ent (as.map (vm B)) := by
  induction as with
  | nil => rfl
  | cons v r ih =>
    show lsm B (some v :: cond (Nat.beq v.category 2) (none :: zd_ent r) (zd_ent r)) = some (vm B v) :: cond (Nat.beq (vm B v).category 2) (none :: zd_ent (r.map (vm B))) (zd_ent (r.map (vm B)))
    rw [vm_cat, ← ih]
    cases Nat.beq v.category 2 <;> rfl
theorem pad_m (B : zd_B) (n : Nat) (ls : zd_V) : lsm B (zd_pad n ls) = zd_pad n (lsm B ls) := by
  unfold zd_pad lsm
  rw [List.map_append, List.map_replicate, List.length_map]
  rfl
/-- a call seen from outside -/
theorem zm_call {l : Launch} {B : zd_B} {D : zg} {y : zd_Y} {as : List Value} {h0 : zd_H} {m : zst} {Q : Option Value → zst → Prop} (h : zm_M l B D y as m Q) (hc : D.1 + D.2.2.length + 1 ≤ h0.1) : zd_M l B y (as.map (vm B)) (mh B D h0 m) (zm_P B D h0 Q) := by
  have := h h0 hc
  rw [pad_m, ent_m] at this
  exact this
/-! instructions that don't look at the heap -/
def om_p (f : zd_S) : zm_S := fun K ls st m _ => f (fun pc ls st _ => K pc ls st m) ls st (0, 0, fun _ => .inl (0, [])) (fun _ _ => False)
def zm_nt (f : zd_S) : Prop := ∀ (B : zd_B) (K : Nat → zd_V → List Value → Prop) (K2 : zd_K) (ls : zd_V) (st : List Value) (h : zd_H) (Q : zd_O → zd_H → Prop) (h2 : zd_H) (Q2 : zd_O → zd_H → Prop), (∀ pc ls st, K pc ls st → K2 pc (lsm B ls) (st.map (vm B)) h) → f (fun pc ls st _ => K pc ls st) ls st h2 Q2 → f K2 (lsm B ls) (st.map (vm B)) h Q
theorem om_pk {l : Launch} {B : zd_B} {D : zg} {y : zd_Y} {pc : Nat} {f : zd_S} (hn : zm_nt f) (hok : zd_ok l B y pc f) : zm_ok l B D y pc (om_p f) := by
  intro K ls st m Q hK q h0 hc
  refine hok (fun pc ls st h => zd_W l B y pc ls st h (zm_P B D h0 Q)) _ _ _ _ (fun _ _ _ _ z => z) ?_
  exact hn B (fun pc ls st => K pc ls st m) _ ls st _ _ _ _ (fun pc ls st z => hK pc ls st m z h0 hc) q
theorem nt_iadd {nx : Nat} : zm_nt (oc_iadd nx) := by
  intro B K K2 ls st h Q h2 Q2 hK q
  unfold oc_iadd at q
  split at q
  all_goals first | exact hK _ _ _ q | exact q.elim
theorem nt_isub {nx : Nat} : zm_nt (oc_isub nx) := by
  intro B K K2 ls st h Q h2 Q2 hK q
  unfold oc_isub at q
  split at q
  all_goals first | exact hK _ _ _ q | exact q.elim
theorem nt_imul {nx : Nat} : zm_nt (oc_imul nx) := by
  intro B K K2 ls st h Q h2 Q2 hK q
  unfold oc_imul at q
  split at q
  all_goals first | exact hK _ _ _ q | exact q.elim
theorem nt_iand {nx : Nat} : zm_nt (oc_iand nx) := by
  intro B K K2 ls st h Q h2 Q2 hK q
  unfold oc_iand at q
  split at q
  all_goals first | exact hK _ _ _ q | exact q.elim
theorem nt_ior {nx : Nat} : zm_nt (oc_ior nx) := by
  intro B K K2 ls st h Q h2 Q2 hK q
  unfold oc_ior at q
  split at q
  all_goals first | exact hK _ _ _ q | exact q.elim
theorem nt_ixor {nx : Nat} : zm_nt (oc_ixor nx) := by
  intro B K K2 ls st h Q h2 Q2 hK q
  unfold oc_ixor at q
  split at q
  all_goals first | exact hK _ _ _ q | exact q.elim
theorem nt_ladd {nx : Nat} : zm_nt (oc_ladd nx) := by
  intro B K K2 ls st h Q h2 Q2 hK q
  unfold oc_ladd at q
  split at q
  all_goals first | exact hK _ _ _ q | exact q.elim
theorem nt_lsub {nx : Nat} : zm_nt (oc_lsub nx) := by
  intro B K K2 ls st h Q h2 Q2 hK q
  unfold oc_lsub at q
  split at q
  all_goals first | exact hK _ _ _ q | exact q.elim
theorem nt_lmul {nx : Nat} : zm_nt (oc_lmul nx) := by
  intro B K K2 ls st h Q h2 Q2 hK q
  unfold oc_lmul at q
  split at q
  all_goals first | exact hK _ _ _ q | exact q.elim
theorem nt_land {nx : Nat} : zm_nt (oc_land nx) := by
  intro B K K2 ls st h Q h2 Q2 hK q
  unfold oc_land at q
  split at q
  all_goals first | exact hK _ _ _ q | exact q.elim
theorem nt_lor {nx : Nat} : zm_nt (oc_lor nx) := by
  intro B K K2 ls st h Q h2 Q2 hK q
  unfold oc_lor at q
  split at q
  all_goals first | exact hK _ _ _ q | exact q.elim
theorem nt_lxor {nx : Nat} : zm_nt (oc_lxor nx) := by
  intro B K K2 ls st h Q h2 Q2 hK q
  unfold oc_lxor at q
  split at q
  all_goals first | exact hK _ _ _ q | exact q.elim
theorem nt_idiv {nx : Nat} : zm_nt (oc_idiv nx) := by
  intro B K K2 ls st h Q h2 Q2 hK q
  unfold oc_idiv at q
  split at q
  all_goals first | exact ⟨q.1, hK _ _ _ q.2⟩ | exact q.elim
theorem nt_irem {nx : Nat} : zm_nt (oc_irem nx) := by
  intro B K K2 ls st h Q h2 Q2 hK q
  unfold oc_irem at q
  split at q
  all_goals first | exact ⟨q.1, hK _ _ _ q.2⟩ | exact q.elim
theorem nt_ldiv {nx : Nat} : zm_nt (oc_ldiv nx) := by
  intro B K K2 ls st h Q h2 Q2 hK q
  unfold oc_ldiv at q
  split at q
  all_goals first | exact ⟨q.1, hK _ _ _ q.2⟩ | exact q.elim
theorem nt_lrem {nx : Nat} : zm_nt (oc_lrem nx) := by
  intro B K K2 ls st h Q h2 Q2 hK q
  unfold oc_lrem at q
  split at q
  all_goals first | exact ⟨q.1, hK _ _ _ q.2⟩ | exact q.elim
theorem nt_ineg {nx : Nat} : zm_nt (oc_ineg nx) := by
  intro B K K2 ls st h Q h2 Q2 hK q
  unfold oc_ineg at q
  split at q
  all_goals first | exact hK _ _ _ q | exact q.elim
theorem nt_lneg {nx : Nat} : zm_nt (oc_lneg nx) := by
  intro B K K2 ls st h Q h2 Q2 hK q
  unfold oc_lneg at q
  split at q
  all_goals first | exact hK _ _ _ q | exact q.elim
theorem nt_ishl {nx : Nat} : zm_nt (oc_ishl nx) := by
  intro B K K2 ls st h Q h2 Q2 hK q
  unfold oc_ishl at q
  split at q
  all_goals first | exact hK _ _ _ q | exact q.elim
theorem nt_ishr {nx : Nat} : zm_nt (oc_ishr nx) := by
  intro B K K2 ls st h Q h2 Q2 hK q
  unfold oc_ishr at q
  split at q
  all_goals first | exact hK _ _ _ q | exact q.elim
theorem nt_iushr {nx : Nat} : zm_nt (oc_iushr nx) := by
  intro B K K2 ls st h Q h2 Q2 hK q
  unfold oc_iushr at q
  split at q
  all_goals first | exact hK _ _ _ q | exact q.elim
theorem nt_lushr {nx : Nat} : zm_nt (oc_lushr nx) := by
  intro B K K2 ls st h Q h2 Q2 hK q
  unfold oc_lushr at q
  split at q
  all_goals first | exact hK _ _ _ q | exact q.elim
theorem nt_lshl {nx : Nat} : zm_nt (oc_lshl nx) := by
  intro B K K2 ls st h Q h2 Q2 hK q
  unfold oc_lshl at q
  split at q
  all_goals first | exact hK _ _ _ q | exact q.elim
theorem nt_lshr {nx : Nat} : zm_nt (oc_lshr nx) := by
  intro B K K2 ls st h Q h2 Q2 hK q
  unfold oc_lshr at q
  split at q
  all_goals first | exact hK _ _ _ q | exact q.elim
theorem nt_i2l {nx : Nat} : zm_nt (oc_i2l nx) := by
  intro B K K2 ls st h Q h2 Q2 hK q
  unfold oc_i2l at q
  split at q
  all_goals first | exact hK _ _ _ q | exact q.elim
theorem nt_l2i {nx : Nat} : zm_nt (oc_l2i nx) := by
  intro B K K2 ls st h Q h2 Q2 hK q
  unfold oc_l2i at q
  split at q
  all_goals first | exact hK _ _ _ q | exact q.elim
theorem nt_i2c {nx : Nat} : zm_nt (oc_i2c nx) := by
  intro B K K2 ls st h Q h2 Q2 hK q
  unfold oc_i2c at q
  split at q
  all_goals first | exact hK _ _ _ q | exact q.elim
theorem nt_lcmp {nx : Nat} : zm_nt (oc_lcmp nx) := by
  intro B K K2 ls st h Q h2 Q2 hK q
  unfold oc_lcmp at q
  split at q
  all_goals first | exact hK _ _ _ q | exact q.elim
theorem nt_dup {nx : Nat} : zm_nt (oc_dup nx) := by
  intro B K K2 ls st h Q h2 Q2 hK q
  unfold oc_dup at q
  split at q
  all_goals first | exact hK _ _ _ q | exact q.elim
theorem nt_pop {nx : Nat} : zm_nt (oc_pop nx) := by
  intro B K K2 ls st h Q h2 Q2 hK q
  unfold oc_pop at q
  split at q
  all_goals first | exact hK _ _ _ q | exact q.elim
theorem nt_dup_x1 {nx : Nat} : zm_nt (oc_dup_x1 nx) := by
  intro B K K2 ls st h Q h2 Q2 hK q
  unfold oc_dup_x1 at q
  split at q
  all_goals first | exact hK _ _ _ q | exact q.elim
theorem nt_dup2 {nx : Nat} : zm_nt (oc_dup2 nx) := by
  intro B K K2 ls st h Q h2 Q2 hK q
  unfold oc_dup2 at q
  split at q
  all_goals first | exact hK _ _ _ q | exact q.elim
theorem nt_if_eq {t nx : Nat} : zm_nt (oc_if_eq t nx) := by
  intro B K K2 ls st h Q h2 Q2 hK q
  unfold oc_if_eq at q
  split at q
  · exact ⟨fun e => hK _ _ _ (q.1 e), fun e => hK _ _ _ (q.2 e)⟩
  · exact q.elim
theorem nt_icmp_eq {t nx : Nat} : zm_nt (oc_icmp_eq t nx) := by
  intro B K K2 ls st h Q h2 Q2 hK q
  unfold oc_icmp_eq at q
  split at q
  · exact ⟨fun e => hK _ _ _ (q.1 e), fun e => hK _ _ _ (q.2 e)⟩
  · exact q.elim
theorem nt_if_ne {t nx : Nat} : zm_nt (oc_if_ne t nx) := by
  intro B K K2 ls st h Q h2 Q2 hK q
  unfold oc_if_ne at q
  split at q
  · exact ⟨fun e => hK _ _ _ (q.1 e), fun e => hK _ _ _ (q.2 e)⟩
  · exact q.elim
theorem nt_icmp_ne {t nx : Nat} : zm_nt (oc_icmp_ne t nx) := by
  intro B K K2 ls st h Q h2 Q2 hK q
  unfold oc_icmp_ne at q
  split at q
  · exact ⟨fun e => hK _ _ _ (q.1 e), fun e => hK _ _ _ (q.2 e)⟩
  · exact q.elim
theorem nt_if_lt {t nx : Nat} : zm_nt (oc_if_lt t nx) := by
  intro B K K2 ls st h Q h2 Q2 hK q
  unfold oc_if_lt at q
  split at q
  · exact ⟨fun e => hK _ _ _ (q.1 e), fun e => hK _ _ _ (q.2 e)⟩
  · exact q.elim
theorem nt_icmp_lt {t nx : Nat} : zm_nt (oc_icmp_lt t nx) := by
  intro B K K2 ls st h Q h2 Q2 hK q
  unfold oc_icmp_lt at q
  split at q
  · exact ⟨fun e => hK _ _ _ (q.1 e), fun e => hK _ _ _ (q.2 e)⟩
  · exact q.elim
theorem nt_if_ge {t nx : Nat} : zm_nt (oc_if_ge t nx) := by
  intro B K K2 ls st h Q h2 Q2 hK q
  unfold oc_if_ge at q
  split at q
  · exact ⟨fun e => hK _ _ _ (q.1 e), fun e => hK _ _ _ (q.2 e)⟩
  · exact q.elim
theorem nt_icmp_ge {t nx : Nat} : zm_nt (oc_icmp_ge t nx) := by
  intro B K K2 ls st h Q h2 Q2 hK q
  unfold oc_icmp_ge at q
  split at q
  · exact ⟨fun e => hK _ _ _ (q.1 e), fun e => hK _ _ _ (q.2 e)⟩
  · exact q.elim
theorem nt_if_gt {t nx : Nat} : zm_nt (oc_if_gt t nx) := by
  intro B K K2 ls st h Q h2 Q2 hK q
  unfold oc_if_gt at q
  split at q
  · exact ⟨fun e => hK _ _ _ (q.1 e), fun e => hK _ _ _ (q.2 e)⟩
  · exact q.elim
theorem nt_icmp_gt {t nx : Nat} : zm_nt (oc_icmp_gt t nx) := by
  intro B K K2 ls st h Q h2 Q2 hK q
  unfold oc_icmp_gt at q
  split at q
  · exact ⟨fun e => hK _ _ _ (q.1 e), fun e => hK _ _ _ (q.2 e)⟩
  · exact q.elim
theorem nt_if_le {t nx : Nat} : zm_nt (oc_if_le t nx) := by
  intro B K K2 ls st h Q h2 Q2 hK q
  unfold oc_if_le at q
  split at q
  · exact ⟨fun e => hK _ _ _ (q.1 e), fun e => hK _ _ _ (q.2 e)⟩
  · exact q.elim
theorem nt_icmp_le {t nx : Nat} : zm_nt (oc_icmp_le t nx) := by
  intro B K K2 ls st h Q h2 Q2 hK q
  unfold oc_icmp_le at q
  split at q
  · exact ⟨fun e => hK _ _ _ (q.1 e), fun e => hK _ _ _ (q.2 e)⟩
  · exact q.elim
theorem nt_ci {v : Int32} {nx : Nat} : zm_nt (oc_ci v nx) := fun _ _ _ _ _ _ _ _ _ hK q => hK _ _ _ q
theorem nt_cl {v : Int64} {nx : Nat} : zm_nt (oc_cl v nx) := fun _ _ _ _ _ _ _ _ _ hK q => hK _ _ _ q
theorem nt_goto {t : Nat} : zm_nt (oc_goto t) := fun _ _ _ _ _ _ _ _ _ hK q => hK _ _ _ q
theorem nt_iload {i nx : Nat} : zm_nt (oc_iload i nx) := by
  intro B K K2 ls st h Q h2 Q2 hK q
  unfold oc_iload at q ⊢
  split at q
  · rename_i x hx
    rw [lsm_get hx]
    exact hK _ _ _ q
  · exact q.elim
theorem nt_lload {i nx : Nat} : zm_nt (oc_lload i nx) := by
  intro B K K2 ls st h Q h2 Q2 hK q
  unfold oc_lload at q ⊢
  split at q
  · rename_i x hx
    rw [lsm_get hx]
    exact hK _ _ _ q
  · exact q.elim
theorem nt_aload {i nx : Nat} : zm_nt (oc_aload i nx) := by
  intro B K K2 ls st h Q h2 Q2 hK q
  unfold oc_aload at q ⊢
  split at q
  · rename_i x hx
    rw [lsm_get hx]
    exact hK _ _ _ q
  · exact q.elim
theorem nt_istore {i nx : Nat} : zm_nt (oc_istore i nx) := by
  intro B K K2 ls st h Q h2 Q2 hK q
  unfold oc_istore at q
  split at q
  · refine zd_fl_mk ?_
    have := hK _ _ _ (zd_fl_eq q)
    rw [lsm_st1] at this
    exact this
  · exact q.elim
theorem nt_lstore {i nx : Nat} : zm_nt (oc_lstore i nx) := by
  intro B K K2 ls st h Q h2 Q2 hK q
  unfold oc_lstore at q
  split at q
  · refine zd_fl_mk ?_
    have := hK _ _ _ (zd_fl_eq q)
    rw [lsm_st2] at this
    exact this
  · exact q.elim
theorem nt_astore {i nx : Nat} : zm_nt (oc_astore i nx) := by
  intro B K K2 ls st h Q h2 Q2 hK q
  unfold oc_astore at q
  split at q
  · refine zd_fl_mk ?_
    have := hK _ _ _ (zd_fl_eq q)
    rw [lsm_st1] at this
    exact this
  · exact q.elim
theorem nt_iinc {i : Nat} {d : Int32} {nx : Nat} : zm_nt (oc_iinc i d nx) := by
  intro B K K2 ls st h Q h2 Q2 hK q
  unfold oc_iinc at q ⊢
  split at q
  · rename_i x hx
    rw [lsm_get hx]
    refine zd_fl_mk ?_
    have := hK _ _ _ (zd_fl_eq q)
    rw [lsm_st1] at this
    exact this
  · exact q.elim
theorem nt_sw {cs : List (Int × Nat)} {df : Nat} : zm_nt (oc_sw cs df) := by
  intro B K K2 ls st h Q h2 Q2 hK q
  unfold oc_sw at q
  split at q
  · rename_i x r
    show zd_sw K2 (lsm B ls) (r.map (vm B)) h x df cs
    induction cs with
    | nil => exact hK _ _ _ q
    | cons c cs ih => exact ⟨fun e => hK _ _ _ (q.1 e), fun e => ih (q.2 e)⟩
  · exact q.elim
/-! fields and rows -/
theorem mh_ob {B : zd_B} {D : zg} {h0 : zd_H} {m : zst} (hc : D.1 + D.2.2.length + 1 ≤ h0.1) : zd_Ob B (mh B D h0 m) (zd_b0 B + D.1) D.2.1 (m.1.map (vm B)) := ⟨⟨by omega, by show _ < zd_b0 B + h0.1; omega⟩, if_pos rfl⟩
theorem mh_ai {B : zd_B} {D : zg} {h0 : zd_H} {m : zst} {j kd n : Nat} {f : Nat → Int32} (hc : D.1 + D.2.2.length + 1 ≤ h0.1) (hj : D.2.2[j]? = some (kd, n)) (hf : m.2[j]? = some f) : zd_Ai B (mh B D h0 m) (zd_b0 B + (D.1 + 1 + j)) kd n f := by
  have hl : j < D.2.2.length := (List.getElem?_eq_some_iff.mp hj).1
  refine ⟨⟨by omega, by show _ < zd_b0 B + h0.1; omega⟩, ?_⟩
  show (if zd_b0 B + (D.1 + 1 + j) = zd_b0 B + D.1 then _ else if zd_b0 B + D.1 + 1 ≤ zd_b0 B + (D.1 + 1 + j) then _ else _) = _
  rw [if_neg (by omega), if_pos (by omega), show zd_b0 B + (D.1 + 1 + j) - (zd_b0 B + D.1 + 1) = j by omega, hj, hf]
theorem mh_setf {B : zd_B} {D : zg} {h0 : zd_H} {m : zst} {k : Nat} {v : Value} : zd_set (mh B D h0 m) (zd_b0 B + D.1) (.inl (D.2.1, (m.1.map (vm B)).set k (vm B v))) = mh B D h0 (m.1.set k v, m.2) := by
  unfold zd_set mh
  refine congrArg (fun z => (h0.1, h0.2.1, z)) (funext fun q => ?_)
  show (if q = zd_b0 B + D.1 then _ else if q = zd_b0 B + D.1 then _ else _) = (if q = zd_b0 B + D.1 then _ else _)
  by_cases e : q = zd_b0 B + D.1
  · rw [if_pos e, if_pos e, List.map_set]
  · rw [if_neg e, if_neg e, if_neg e]
theorem mh_seta {B : zd_B} {D : zg} {h0 : zd_H} {m : zst} {j kd n : Nat} {f g : Nat → Int32} (hj : D.2.2[j]? = some (kd, n)) (hf : m.2[j]? = some f) : zd_set (mh B D h0 m) (zd_b0 B + (D.1 + 1 + j)) (.inr (.inl (kd, n, g))) = mh B D h0 (m.1, m.2.set j g) := by
  have hl : j < m.2.length := (List.getElem?_eq_some_iff.mp hf).1
  unfold zd_set mh
  refine congrArg (fun z => (h0.1, h0.2.1, z)) (funext fun q => ?_)
  show (if q = zd_b0 B + (D.1 + 1 + j) then _ else if q = zd_b0 B + D.1 then _ else _) = (if q = zd_b0 B + D.1 then _ else _)
  by_cases e : q = zd_b0 B + (D.1 + 1 + j)
  · rw [if_pos e, if_neg (by omega), if_pos (by omega), show q - (zd_b0 B + D.1 + 1) = j by omega, hj, List.getElem?_set_self hl]
  · rw [if_neg e]
    by_cases e2 : q = zd_b0 B + D.1
    · rw [if_pos e2, if_pos e2]
    · rw [if_neg e2, if_neg e2]
      by_cases e3 : zd_b0 B + D.1 + 1 ≤ q
      · rw [if_pos e3, if_pos e3, List.getElem?_set_ne (by omega)]
      · rw [if_neg e3, if_neg e3]
def om_getf (D : zg) (k nx : Nat) : zm_S := fun K ls st m _ => match st with
  | .ref a :: r => cond (Nat.beq a D.1) (match m.1[k]? with
    | some v => K nx ls (v :: r) m
    | none => False) False
  | _ => False
theorem ok_mgetf {l : Launch} {B : zd_B} {D : zg} {y : zd_Y} {pc k nx : Nat} {ci : Nat} (hci : D.2.1 = ci) (hok : zd_ok l B y pc (oc_getf B ci k nx)) : zm_ok l B D y pc (om_getf D k nx) := by
  subst hci
  intro K ls st m Q hK q h0 hc
  unfold om_getf at q
  split at q
  · rename_i a r
    cases ha : Nat.beq a D.1 with
    | false => rw [ha] at q; exact q.elim
    | true =>
      rw [ha] at q
      have e := Nat.eq_of_beq_eq_true ha
      subst e
      have q : (match m.1[k]? with
        | some v => K nx ls (v :: r) m
        | none => False) := q
      split at q
      · rename_i v hv
        refine hok (fun pc ls st h => zd_W l B y pc ls st h (zm_P B D h0 Q)) _ _ _ _ (fun _ _ _ _ z => z) ?_
        refine ⟨m.1.map (vm B), mh_ob hc, ?_⟩
        rw [List.getElem?_map, hv]
        exact hK _ _ _ _ q h0 hc
      · exact q.elim
  · exact q.elim
theorem i2c_nI {c : Nat} (h : c < 65536) : (nI c).toUInt32.toUInt16.toUInt32.toInt32 = nI c := by
  unfold nI
  apply Int32.toBitVec.inj
  apply BitVec.eq_of_toNat_eq
  simp
  omega
theorem narrow_b (b : Bool) : narrow .boolean (.int (bI b)) = .int (bI b) := by cases b <;> rfl
theorem narrow_c {c : Nat} (h : c < 65536) : narrow .char (.int (nI c)) = .int (nI c) := congrArg Value.int (i2c_nI h)
/-- a field set: an int, a long, a boolean -/
def om_puti (D : zg) (k nx : Nat) : zm_S := fun K ls st m _ => match st with
  | .int x :: .ref a :: r => cond (Nat.beq a D.1) (match m.1[k]? with
    | some _ => zl_fl (m.1.set k (.int x)) (fun w => K nx ls r (w, m.2))
    | none => False) False
  | _ => False
def om_putl (D : zg) (k nx : Nat) : zm_S := fun K ls st m _ => match st with
  | .long x :: .ref a :: r => cond (Nat.beq a D.1) (match m.1[k]? with
    | some _ => zl_fl (m.1.set k (.long x)) (fun w => K nx ls r (w, m.2))
    | none => False) False
  | _ => False
def om_putb (D : zg) (k nx : Nat) : zm_S := fun K ls st m _ => match st with
  | .int x :: .ref a :: r => cond (Nat.beq a D.1) (match m.1[k]? with
    | some _ => ∃ b, x = bI b ∧ zl_fl (m.1.set k (.int (bI b))) (fun w => K nx ls r (w, m.2))
    | none => False) False
  | _ => False
theorem zm_put {l : Launch} {B : zd_B} {D : zg} {y : zd_Y} {pc k nx : Nat} {ty : FieldType} {K : zm_K} {ls : zd_V} {r : List Value} {m : zst} {v w : Value} {Q : Option Value → zst → Prop} {h0 : zd_H} (hc0 : narrow ty (vm B v) = vm B v ∧ fits ty (vm B v) = true) (hok : zd_ok l B y pc (oc_putf B ty D.2.1 k nx)) (hc : D.1 + D.2.2.length + 1 ≤ h0.1) (hK : ∀ pc' ls' st' m', K pc' ls' st' m' → zm_W l B D y pc' ls' st' m' Q) (hv : m.1[k]? = some w) (q : K nx ls r (m.1.set k v, m.2)) : zd_W l B y pc (lsm B ls) ((v :: .ref D.1 :: r).map (vm B)) (mh B D h0 m) (zm_P B D h0 Q) := by
  refine hok (fun pc ls st h => zd_W l B y pc ls st h (zm_P B D h0 Q)) _ _ _ _ (fun _ _ _ _ z => z) ?_
  refine ⟨m.1.map (vm B), mh_ob hc, by rw [List.length_map]; exact (List.getElem?_eq_some_iff.mp hv).1, hc0, ?_⟩
  rw [mh_setf]
  exact hK _ _ _ _ q h0 hc
theorem ok_mputi {l : Launch} {B : zd_B} {D : zg} {y : zd_Y} {pc k nx ci : Nat} (hci : D.2.1 = ci) (hok : zd_ok l B y pc (oc_putf B .int ci k nx)) : zm_ok l B D y pc (om_puti D k nx) := by
  subst hci
  intro K ls st m Q hK q h0 hc
  unfold om_puti at q
  split at q
  · rename_i x a r
    cases ha : Nat.beq a D.1 with
    | false => rw [ha] at q; exact q.elim
    | true =>
      rw [ha] at q
      have e := Nat.eq_of_beq_eq_true ha
      subst e
      have q : (match m.1[k]? with
        | some _ => zl_fl (m.1.set k (.int x)) (fun w => K nx ls r (w, m.2))
        | none => False) := q
      split at q
      · exact zm_put ⟨rfl, rfl⟩ hok hc hK ‹_› (zl_fl_eq q)
      · exact q.elim
  · exact q.elim
theorem ok_mputl {l : Launch} {B : zd_B} {D : zg} {y : zd_Y} {pc k nx ci : Nat} (hci : D.2.1 = ci) (hok : zd_ok l B y pc (oc_putf B .long ci k nx)) : zm_ok l B D y pc (om_putl D k nx) := by
  subst hci
  intro K ls st m Q hK q h0 hc
  unfold om_putl at q
  split at q
  · rename_i x a r
    cases ha : Nat.beq a D.1 with
    | false => rw [ha] at q; exact q.elim
    | true =>
      rw [ha] at q
      have e := Nat.eq_of_beq_eq_true ha
      subst e
      have q : (match m.1[k]? with
        | some _ => zl_fl (m.1.set k (.long x)) (fun w => K nx ls r (w, m.2))
        | none => False) := q
      split at q
      · exact zm_put ⟨rfl, rfl⟩ hok hc hK ‹_› (zl_fl_eq q)
      · exact q.elim
  · exact q.elim
theorem ok_mputb {l : Launch} {B : zd_B} {D : zg} {y : zd_Y} {pc k nx ci : Nat} (hci : D.2.1 = ci) (hok : zd_ok l B y pc (oc_putf B .boolean ci k nx)) : zm_ok l B D y pc (om_putb D k nx) := by
  subst hci
  intro K ls st m Q hK q h0 hc
  unfold om_putb at q
  split at q
  · rename_i x a r
    cases ha : Nat.beq a D.1 with
    | false => rw [ha] at q; exact q.elim
    | true =>
      rw [ha] at q
      have e := Nat.eq_of_beq_eq_true ha
      subst e
      have q : (match m.1[k]? with
        | some _ => ∃ b, x = bI b ∧ zl_fl (m.1.set k (.int (bI b))) (fun w => K nx ls r (w, m.2))
        | none => False) := q
      split at q
      · obtain ⟨b, e, u⟩ := q
        subst e
        exact zm_put (by cases b <;> exact ⟨rfl, rfl⟩) hok hc hK ‹_› (zl_fl_eq u)
      · exact q.elim
  · exact q.elim
/-- a row read, or one place of it set: kind kd; what is set is one of c -/
def om_ald (D : zg) (kd nx : Nat) : zm_S := fun K ls st m _ => match st with
  | .int i :: .ref a :: r => cond (Nat.ble (D.1 + 1) a) (match D.2.2[a - (D.1 + 1)]?, m.2[a - (D.1 + 1)]? with
    | some n, some f => cond (Nat.beq n.1 kd && Nat.ble n.2 2147483647) (∃ k, i = nI k ∧ k < n.2 ∧ K nx ls (.int (f k) :: r) m) False
    | _, _ => False) False
  | _ => False
def om_ast (D : zg) (kd : Nat) (c : Int32 → (Int32 → Prop) → Prop) (nx : Nat) : zm_S := fun K ls st m _ => match st with
  | .int x :: .int i :: .ref a :: r => cond (Nat.ble (D.1 + 1) a) (match D.2.2[a - (D.1 + 1)]?, m.2[a - (D.1 + 1)]? with
    | some n, some f => cond (Nat.beq n.1 kd && Nat.ble n.2 2147483647) (∃ k, i = nI k ∧ k < n.2 ∧ c x (fun x => zl_fl (m.2.set (a - (D.1 + 1)) (upd f k x)) (fun w => K nx ls r (m.1, w)))) False
    | _, _ => False) False
  | _ => False
/-- any int; a boolean; a character -/
def cs_i : Int32 → (Int32 → Prop) → Prop := fun x k => k x
def cs_b : Int32 → (Int32 → Prop) → Prop := fun x k => ∃ b, x = bI b ∧ k (bI b)
def cs_c : Int32 → (Int32 → Prop) → Prop := fun x k => ∃ c, x = nI c ∧ c < 65536 ∧ k (nI c)
theorem om_ald_in {D : zg} {kd nx : Nat} {K : zm_K} {ls : zd_V} {st : List Value} {m : zst} {Q : Option Value → zst → Prop} (q : om_ald D kd nx K ls st m Q) : ∃ i j r n f k, st = .int i :: .ref (D.1 + 1 + j) :: r ∧ D.2.2[j]? = some (kd, n) ∧ m.2[j]? = some f ∧ i = nI k ∧ k < n ∧ n < 2 ^ 31 ∧ K nx ls (.int (f k) :: r) m := by
  unfold om_ald at q
  split at q
  · rename_i i a r
    cases ha : Nat.ble (D.1 + 1) a with
    | false => rw [ha] at q; exact q.elim
    | true =>
      rw [ha] at q
      have e := Nat.le_of_ble_eq_true ha
      have q : (match D.2.2[a - (D.1 + 1)]?, m.2[a - (D.1 + 1)]? with
        | some n, some f => cond (Nat.beq n.1 kd && Nat.ble n.2 2147483647) (∃ k, i = nI k ∧ k < n.2 ∧ K nx ls (.int (f k) :: r) m) False
        | _, _ => False) := q
      split at q
      · rename_i n f hn hf
        cases hk : Nat.beq n.1 kd && Nat.ble n.2 2147483647 with
        | false => rw [hk] at q; exact q.elim
        | true =>
          rw [hk] at q
          obtain ⟨k, q1, q2, q3⟩ := q
          rw [Bool.and_eq_true] at hk
          have e2 := Nat.eq_of_beq_eq_true hk.1
          have e3 := Nat.le_of_ble_eq_true hk.2
          exact ⟨i, a - (D.1 + 1), r, n.2, f, k, by rw [show D.1 + 1 + (a - (D.1 + 1)) = a by omega], by rw [hn, ← e2], hf, q1, q2, by omega, q3⟩
      · exact q.elim
  · exact q.elim
theorem om_ast_in {D : zg} {kd nx : Nat} {c : Int32 → (Int32 → Prop) → Prop} {K : zm_K} {ls : zd_V} {st : List Value} {m : zst} {Q : Option Value → zst → Prop} (q : om_ast D kd c nx K ls st m Q) : ∃ x i j r n f k, st = .int x :: .int i :: .ref (D.1 + 1 + j) :: r ∧ D.2.2[j]? = some (kd, n) ∧ m.2[j]? = some f ∧ i = nI k ∧ k < n ∧ n < 2 ^ 31 ∧ c x (fun x => zl_fl (m.2.set j (upd f k x)) (fun w => K nx ls r (m.1, w))) := by
  unfold om_ast at q
  split at q
  · rename_i x i a r
    cases ha : Nat.ble (D.1 + 1) a with
    | false => rw [ha] at q; exact q.elim
    | true =>
      rw [ha] at q
      have e := Nat.le_of_ble_eq_true ha
      have q : (match D.2.2[a - (D.1 + 1)]?, m.2[a - (D.1 + 1)]? with
        | some n, some f => cond (Nat.beq n.1 kd && Nat.ble n.2 2147483647) (∃ k, i = nI k ∧ k < n.2 ∧ c x (fun x => zl_fl (m.2.set (a - (D.1 + 1)) (upd f k x)) (fun w => K nx ls r (m.1, w)))) False
        | _, _ => False) := q
      split at q
      · rename_i n f hn hf
        cases hk : Nat.beq n.1 kd && Nat.ble n.2 2147483647 with
        | false => rw [hk] at q; exact q.elim
        | true =>
          rw [hk] at q
          obtain ⟨k, q1, q2, q3⟩ := q
          rw [Bool.and_eq_true] at hk
          have e2 := Nat.eq_of_beq_eq_true hk.1
          have e3 := Nat.le_of_ble_eq_true hk.2
          exact ⟨x, i, a - (D.1 + 1), r, n.2, f, k, by rw [show D.1 + 1 + (a - (D.1 + 1)) = a by omega], by rw [hn, ← e2], hf, q1, q2, by omega, q3⟩
      · exact q.elim
  · exact q.elim
theorem ok_miaload {l : Launch} {B : zd_B} {D : zg} {y : zd_Y} {pc nx : Nat} (hok : zd_ok l B y pc (oc_iaload B nx)) : zm_ok l B D y pc (om_ald D 0 nx) := by
  intro K ls st m Q hK q h0 hc
  obtain ⟨i, j, r, n, f, k, e1, e2, e3, e4, e5, e6, u⟩ := om_ald_in q
  subst e1
  subst e4
  refine hok (fun pc ls st h => zd_W l B y pc ls st h (zm_P B D h0 Q)) _ _ _ _ (fun _ _ _ _ z => z) ?_
  refine ⟨n, f, Or.inl (mh_ai hc e2 e3), vp_in_nI e5 e6, ?_⟩
  rw [nI_clamp (by omega)]
  exact hK _ _ _ _ u h0 hc
theorem ok_mcaload {l : Launch} {B : zd_B} {D : zg} {y : zd_Y} {pc nx : Nat} (hok : zd_ok l B y pc (oc_caload B nx)) : zm_ok l B D y pc (om_ald D 1 nx) := by
  intro K ls st m Q hK q h0 hc
  obtain ⟨i, j, r, n, f, k, e1, e2, e3, e4, e5, e6, u⟩ := om_ald_in q
  subst e1
  subst e4
  refine hok (fun pc ls st h => zd_W l B y pc ls st h (zm_P B D h0 Q)) _ _ _ _ (fun _ _ _ _ z => z) ?_
  refine ⟨n, f, mh_ai hc e2 e3, vp_in_nI e5 e6, ?_⟩
  rw [nI_clamp (by omega)]
  exact hK _ _ _ _ u h0 hc
theorem ok_mbaload {l : Launch} {B : zd_B} {D : zg} {y : zd_Y} {pc nx : Nat} (hok : zd_ok l B y pc (oc_baload B nx)) : zm_ok l B D y pc (om_ald D 2 nx) := by
  intro K ls st m Q hK q h0 hc
  obtain ⟨i, j, r, n, f, k, e1, e2, e3, e4, e5, e6, u⟩ := om_ald_in q
  subst e1
  subst e4
  refine hok (fun pc ls st h => zd_W l B y pc ls st h (zm_P B D h0 Q)) _ _ _ _ (fun _ _ _ _ z => z) ?_
  refine ⟨n, f, mh_ai hc e2 e3, vp_in_nI e5 e6, ?_⟩
  rw [nI_clamp (by omega)]
  exact hK _ _ _ _ u h0 hc
theorem ok_miastore {l : Launch} {B : zd_B} {D : zg} {y : zd_Y} {pc nx : Nat} (hok : zd_ok l B y pc (oc_iastore B nx)) : zm_ok l B D y pc (om_ast D 0 cs_i nx) := by
  intro K ls st m Q hK q h0 hc
  obtain ⟨x, i, j, r, n, f, k, e1, e2, e3, e4, e5, e6, u⟩ := om_ast_in q
  subst e1
  subst e4
  refine hok (fun pc ls st h => zd_W l B y pc ls st h (zm_P B D h0 Q)) _ _ _ _ (fun _ _ _ _ z => z) ?_
  refine ⟨n, f, mh_ai hc e2 e3, vp_in_nI e5 e6, ?_⟩
  rw [nI_clamp (by omega), mh_seta e2 e3]
  exact hK _ _ _ _ (zl_fl_eq u) h0 hc
theorem ok_mcastore {l : Launch} {B : zd_B} {D : zg} {y : zd_Y} {pc nx : Nat} (hok : zd_ok l B y pc (oc_castore B nx)) : zm_ok l B D y pc (om_ast D 1 cs_c nx) := by
  intro K ls st m Q hK q h0 hc
  obtain ⟨x, i, j, r, n, f, k, e1, e2, e3, e4, e5, e6, u⟩ := om_ast_in q
  subst e1
  subst e4
  obtain ⟨c, e7, e8, u⟩ := u
  subst e7
  refine hok (fun pc ls st h => zd_W l B y pc ls st h (zm_P B D h0 Q)) _ _ _ _ (fun _ _ _ _ z => z) ?_
  refine ⟨n, f, mh_ai hc e2 e3, vp_in_nI e5 e6, narrow_c e8, ?_⟩
  rw [nI_clamp (by omega), mh_seta e2 e3]
  exact hK _ _ _ _ (zl_fl_eq u) h0 hc
theorem ok_mbastore {l : Launch} {B : zd_B} {D : zg} {y : zd_Y} {pc nx : Nat} (hok : zd_ok l B y pc (oc_bastore B nx)) : zm_ok l B D y pc (om_ast D 2 cs_b nx) := by
  intro K ls st m Q hK q h0 hc
  obtain ⟨x, i, j, r, n, f, k, e1, e2, e3, e4, e5, e6, u⟩ := om_ast_in q
  subst e1
  subst e4
  obtain ⟨b, e7, u⟩ := u
  subst e7
  refine hok (fun pc ls st h => zd_W l B y pc ls st h (zm_P B D h0 Q)) _ _ _ _ (fun _ _ _ _ z => z) ?_
  refine ⟨n, f, mh_ai hc e2 e3, vp_in_nI e5 e6, narrow_b b, ?_⟩
  rw [nI_clamp (by omega), mh_seta e2 e3]
  exact hK _ _ _ _ (zl_fl_eq u) h0 hc
/-! calls and ends -/
def om_calls (l : Launch) (B : zd_B) (D : zg) (y2 : zd_Y) (n nx : Nat) : zm_S := fun K ls st m _ => cond (Nat.beq (st.take n).length n && (Nat.ble ((st.drop n).map fun v => v.category).sum 8 && Nat.ble (lg_sl (st.take n).reverse).length (zd_yl y2))) (zm_M l B D y2 (st.take n).reverse m (fun v m' => K nx ls (v.toList ++ st.drop n) m')) False
def om_callv (l : Launch) (B : zd_B) (D : zg) (y2 : zd_Y) (n nx : Nat) : zm_S := fun K ls st m _ => match st.drop n with
  | .ref a :: rest => cond (Nat.beq a D.1 && (Nat.beq (st.take n).length n && (Nat.ble (rest.map fun v => v.category).sum 8 && Nat.ble (lg_sl (.ref a :: (st.take n).reverse)).length (zd_yl y2)))) (zm_M l B D y2 (.ref a :: (st.take n).reverse) m (fun v m' => K nx ls (v.toList ++ rest) m')) False
  | _ => False
def om_iret : zm_S := fun _ _ st m Q => match st with
  | [.int x] => Q (some (.int x)) m ∧ True
  | _ => False
def om_zret : zm_S := fun _ _ st m Q => match st with
  | [.int x] => (∃ b, x = bI b ∧ Q (some (.int (bI b))) m) ∧ True
  | _ => False
def om_cret : zm_S := fun _ _ st m Q => match st with
  | [.int x] => (∃ c, x = nI c ∧ c < 65536 ∧ Q (some (.int (nI c))) m) ∧ True
  | _ => False
def om_lret : zm_S := fun _ _ st m Q => match st with
  | [.long x] => Q (some (.long x)) m ∧ True
  | _ => False
def om_vret : zm_S := fun _ _ st m Q => match st with
  | [] => Q none m ∧ True
  | _ => False
theorem ok_miret {l : Launch} {B : zd_B} {D : zg} {y : zd_Y} {pc : Nat} (hok : zd_ok l B y pc (oc_iret .int)) : zm_ok l B D y pc om_iret := by
  intro K ls st m Q hK q h0 hc
  unfold om_iret at q
  split at q
  · exact hok (fun pc ls st h => zd_W l B y pc ls st h (zm_P B D h0 Q)) _ _ _ _ (fun _ _ _ _ z => z) ⟨rfl, ⟨_, _, rfl, rfl, q.1⟩, trivial⟩
  · exact q.elim
theorem ok_mzret {l : Launch} {B : zd_B} {D : zg} {y : zd_Y} {pc : Nat} (hok : zd_ok l B y pc (oc_iret .boolean)) : zm_ok l B D y pc om_zret := by
  intro K ls st m Q hK q h0 hc
  unfold om_zret at q
  split at q
  · obtain ⟨⟨b, e, q⟩, -⟩ := q
    subst e
    exact hok (fun pc ls st h => zd_W l B y pc ls st h (zm_P B D h0 Q)) _ _ _ _ (fun _ _ _ _ z => z) ⟨narrow_b b, ⟨_, _, rfl, rfl, q⟩, trivial⟩
  · exact q.elim
theorem ok_mcret {l : Launch} {B : zd_B} {D : zg} {y : zd_Y} {pc : Nat} (hok : zd_ok l B y pc (oc_iret .char)) : zm_ok l B D y pc om_cret := by
  intro K ls st m Q hK q h0 hc
  unfold om_cret at q
  split at q
  · obtain ⟨⟨c, e, e2, q⟩, -⟩ := q
    subst e
    exact hok (fun pc ls st h => zd_W l B y pc ls st h (zm_P B D h0 Q)) _ _ _ _ (fun _ _ _ _ z => z) ⟨narrow_c e2, ⟨_, _, rfl, rfl, q⟩, trivial⟩
  · exact q.elim
theorem ok_mlret {l : Launch} {B : zd_B} {D : zg} {y : zd_Y} {pc : Nat} (hok : zd_ok l B y pc oc_lret) : zm_ok l B D y pc om_lret := by
  intro K ls st m Q hK q h0 hc
  unfold om_lret at q
  split at q
  · exact hok (fun pc ls st h => zd_W l B y pc ls st h (zm_P B D h0 Q)) _ _ _ _ (fun _ _ _ _ z => z) ⟨⟨_, _, rfl, rfl, q.1⟩, trivial⟩
  · exact q.elim
theorem ok_mvret {l : Launch} {B : zd_B} {D : zg} {y : zd_Y} {pc : Nat} (hok : zd_ok l B y pc oc_vret) : zm_ok l B D y pc om_vret := by
  intro K ls st m Q hK q h0 hc
  unfold om_vret at q
  split at q
  · exact hok (fun pc ls st h => zd_W l B y pc ls st h (zm_P B D h0 Q)) _ _ _ _ (fun _ _ _ _ z => z) ⟨⟨_, _, rfl, rfl, q.1⟩, trivial⟩
  · exact q.elim
theorem sl_m (B : zd_B) (as : List Value) : (lg_sl (as.map (vm B))).length = (lg_sl as).length := by
  induction as with
  | nil => rfl
  | cons v r ih =>
    unfold lg_sl at ih ⊢
    rw [List.map_cons, List.flatMap_cons, List.flatMap_cons, List.length_append, List.length_append, ih, vm_cat]
    congr 1
    split <;> rfl
theorem cat_m (B : zd_B) (as : List Value) : ((as.map (vm B)).map fun v => v.category) = as.map fun v => v.category := by
  rw [List.map_map]
  exact List.map_congr_left fun v _ => vm_cat B v
/-- no exception: what was said of a value -/
theorem zm_cont {l : Launch} {B : zd_B} {D : zg} {y : zd_Y} {h0 : zd_H} {nx : Nat} {ls : zd_V} {rest : List Value} {K : zm_K} {Q : Option Value → zst → Prop} (hc : D.1 + D.2.2.length + 1 ≤ h0.1) (hK : ∀ pc' ls' st' m', K pc' ls' st' m' → zm_W l B D y pc' ls' st' m' Q) :
    ∀ x g, zm_P B D h0 (fun v m' => K nx ls (v.toList ++ rest) m') x g → zd_cont (fun pc ls st h => zd_W l B y pc ls st h (zm_P B D h0 Q)) (zm_P B D h0 Q) nx (lsm B ls) (rest.map (vm B)) x g := by
  rintro x g ⟨v, m, rfl, rfl, q⟩
  have := hK _ _ _ _ q h0 hc
  cases v <;> exact this
theorem ok_mcalls {l : Launch} {B : zd_B} {D : zg} {y y2 : zd_Y} {pc n nx : Nat} (hok : zd_ok l B y pc (oc_calls l B y2 n nx)) : zm_ok l B D y pc (om_calls l B D y2 n nx) := by
  intro K ls st m Q hK q h0 hc
  unfold om_calls at q
  cases hb : (Nat.beq (st.take n).length n && (Nat.ble ((st.drop n).map fun v => v.category).sum 8 && Nat.ble (lg_sl (st.take n).reverse).length (zd_yl y2))) with
  | false => rw [hb] at q; exact q.elim
  | true =>
    rw [hb] at q
    have q : zm_M l B D y2 (st.take n).reverse m (fun v m' => K nx ls (v.toList ++ st.drop n) m') := q
    simp only [Bool.and_eq_true] at hb
    obtain ⟨b1, b2, b3⟩ := hb
    have e1 : (st.map (vm B)).take n = (st.take n).map (vm B) := List.map_take.symm
    have e2 : (st.map (vm B)).drop n = (st.drop n).map (vm B) := List.map_drop.symm
    refine hok (fun pc ls st h => zd_W l B y pc ls st h (zm_P B D h0 Q)) _ _ _ _ (fun _ _ _ _ z => z) ?_
    show (((st.map (vm B)).take n).length = n ∧ (((st.map (vm B)).drop n).map fun v => v.category).sum ≤ 8 ∧ (lg_sl ((st.map (vm B)).take n).reverse).length ≤ zd_yl y2) ∧ zd_M l B y2 ((st.map (vm B)).take n).reverse (mh B D h0 m) (zd_cont _ (zm_P B D h0 Q) nx (lsm B ls) ((st.map (vm B)).drop n))
    rw [e1, e2, cat_m, ← List.map_reverse, sl_m, List.length_map]
    exact ⟨⟨Nat.eq_of_beq_eq_true b1, Nat.le_of_ble_eq_true b2, Nat.le_of_ble_eq_true b3⟩, zd_W.post (zm_call q hc) (zm_cont hc hK)⟩
theorem ok_mcallv {l : Launch} {B : zd_B} {D : zg} {y y2 : zd_Y} {pc n nx ci : Nat} (hci : D.2.1 = ci) (hok : zd_ok l B y pc (oc_callv l B ci y2 n nx)) : zm_ok l B D y pc (om_callv l B D y2 n nx) := by
  subst hci
  intro K ls st m Q hK q h0 hc
  unfold om_callv at q
  split at q
  · rename_i a rest hd
    cases hb : (Nat.beq a D.1 && (Nat.beq (st.take n).length n && (Nat.ble (rest.map fun v => v.category).sum 8 && Nat.ble (lg_sl (.ref a :: (st.take n).reverse)).length (zd_yl y2)))) with
    | false => rw [hb] at q; exact q.elim
    | true =>
      rw [hb] at q
      have q : zm_M l B D y2 (.ref a :: (st.take n).reverse) m (fun v m' => K nx ls (v.toList ++ rest) m') := q
      simp only [Bool.and_eq_true] at hb
      obtain ⟨b0, b1, b2, b3⟩ := hb
      have e0 := Nat.eq_of_beq_eq_true b0
      subst e0
      have e1 : (st.map (vm B)).take n = (st.take n).map (vm B) := List.map_take.symm
      have e2 : (st.map (vm B)).drop n = .ref (zd_b0 B + D.1) :: rest.map (vm B) := by rw [← List.map_drop, hd]; rfl
      have e3 : Value.ref (zd_b0 B + D.1) :: ((st.take n).map (vm B)).reverse = (Value.ref D.1 :: (st.take n).reverse).map (vm B) := by rw [← List.map_reverse]; rfl
      refine hok (fun pc ls st h => zd_W l B y pc ls st h (zm_P B D h0 Q)) _ _ _ _ (fun _ _ _ _ z => z) ?_
      unfold oc_callv
      rw [e2]
      show (∃ fs, zd_Ob B (mh B D h0 m) (zd_b0 B + D.1) D.2.1 fs) ∧ (((st.map (vm B)).take n).length = n ∧ ((rest.map (vm B)).map fun v => v.category).sum ≤ 8 ∧ (lg_sl (.ref (zd_b0 B + D.1) :: ((st.map (vm B)).take n).reverse)).length ≤ zd_yl y2) ∧ zd_M l B y2 (.ref (zd_b0 B + D.1) :: ((st.map (vm B)).take n).reverse) (mh B D h0 m) (zd_cont _ (zm_P B D h0 Q) nx (lsm B ls) (rest.map (vm B)))
      rw [e1, cat_m, e3, sl_m, List.length_map]
      exact ⟨⟨_, mh_ob hc⟩, ⟨Nat.eq_of_beq_eq_true b1, Nat.le_of_ble_eq_true b2, Nat.le_of_ble_eq_true b3⟩, zd_W.post (zm_call q hc) (zm_cont hc hK)⟩
  · exact q.elim
theorem zm_W.post {l : Launch} {B : zd_B} {D : zg} {y : zd_Y} {pc : Nat} {ls : zd_V} {st : List Value} {m : zst} {Q Q' : Option Value → zst → Prop} (k : zm_W l B D y pc ls st m Q) (hq : ∀ v m, Q v m → Q' v m) : zm_W l B D y pc ls st m Q' := fun h0 hc => zd_W.post (k h0 hc) (fun x g ⟨v, m, a, b, c⟩ => ⟨v, m, a, b, hq v m c⟩)

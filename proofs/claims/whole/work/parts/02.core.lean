/-! names of classes and fields (written by names.py) -/
def zR0 : String := "DecimalDesk"
def zT0 : u_T := fun k => match k with
  | 0 => ("DecimalDesk", "registers", "[LDecimalDesk$Decimal;", true)
  | 1 => ("DecimalDesk", "draft", "LDecimalDesk$Draft;", true)
  | 2 => ("DecimalDesk", "text", "LDecimalDesk$Text;", true)
  | 3 => ("DecimalDesk", "divider", "LDecimalDesk$Divider;", true)
  | 4 => ("DecimalDesk", "rooter", "LDecimalDesk$Rooter;", true)
  | 5 => ("DecimalDesk", "rough", "LDecimalDesk$Rough;", true)
  | 6 => ("DecimalDesk", "other", "LDecimalDesk$Natural;", true)
  | _ => ("DecimalDesk", "outcome", "LDecimalDesk$Natural;", true)
def zy0 : Nat → FieldType := fun k => match k with
  | 0 => .array (.object "DecimalDesk$Decimal")
  | 1 => .object "DecimalDesk$Draft"
  | 2 => .object "DecimalDesk$Text"
  | 3 => .object "DecimalDesk$Divider"
  | 4 => .object "DecimalDesk$Rooter"
  | 5 => .object "DecimalDesk$Rough"
  | 6 => .object "DecimalDesk$Natural"
  | _ => .object "DecimalDesk$Natural"
def zR1 : String := "DecimalDesk$Decimal"
def zT1 : u_T := fun k => match k with
  | 0 => ("DecimalDesk$Decimal", "number", "LDecimalDesk$Natural;", true)
  | 1 => ("DecimalDesk$Decimal", "negative", "Z", false)
  | _ => ("DecimalDesk$Decimal", "scale", "I", false)
def zy1 : Nat → FieldType := fun k => match k with
  | 0 => .object "DecimalDesk$Natural"
  | 1 => .boolean
  | _ => .int
def zR2 : String := "DecimalDesk$Divider"
def zT2 : u_T := fun k => match k with
  | _ => ("DecimalDesk$Divider", "divisor", "LDecimalDesk$Natural;", true)
def zy2 : Nat → FieldType := fun k => match k with
  | _ => .object "DecimalDesk$Natural"
def zR3 : String := "DecimalDesk$Draft"
def zT3 : u_T := fun k => match k with
  | 0 => ("DecimalDesk$Draft", "chars", "[C", true)
  | 1 => ("DecimalDesk$Draft", "count", "I", false)
  | 2 => ("DecimalDesk$Draft", "negative", "Z", false)
  | 3 => ("DecimalDesk$Draft", "firstDigit", "I", false)
  | 4 => ("DecimalDesk$Draft", "endOfDigits", "I", false)
  | 5 => ("DecimalDesk$Draft", "digits", "I", false)
  | 6 => ("DecimalDesk$Draft", "digitsBehindPoint", "I", false)
  | _ => ("DecimalDesk$Draft", "exponent", "J", false)
def zy3 : Nat → FieldType := fun k => match k with
  | 0 => .array .char
  | 1 => .int
  | 2 => .boolean
  | 3 => .int
  | 4 => .int
  | 5 => .int
  | 6 => .int
  | _ => .long
def zR4 : String := "DecimalDesk$Natural"
def zT4 : u_T := fun k => match k with
  | 0 => ("DecimalDesk$Natural", "limbs", "[I", true)
  | _ => ("DecimalDesk$Natural", "size", "I", false)
def zy4 : Nat → FieldType := fun k => match k with
  | 0 => .array .int
  | _ => .int
def zR5 : String := "DecimalDesk$Rooter"
def zT5 : u_T := fun k => match k with
  | 0 => ("DecimalDesk$Rooter", "divider", "LDecimalDesk$Divider;", true)
  | 1 => ("DecimalDesk$Rooter", "head", "LDecimalDesk$Natural;", true)
  | 2 => ("DecimalDesk$Rooter", "rest", "LDecimalDesk$Natural;", true)
  | _ => ("DecimalDesk$Rooter", "ratio", "LDecimalDesk$Natural;", true)
def zy5 : Nat → FieldType := fun k => match k with
  | 0 => .object "DecimalDesk$Divider"
  | 1 => .object "DecimalDesk$Natural"
  | 2 => .object "DecimalDesk$Natural"
  | _ => .object "DecimalDesk$Natural"
def zR6 : String := "DecimalDesk$Rough"
def zT6 : u_T := fun k => match k with
  | 0 => ("DecimalDesk$Rough", "number", "LDecimalDesk$Natural;", true)
  | 1 => ("DecimalDesk$Rough", "negative", "Z", false)
  | 2 => ("DecimalDesk$Rough", "scale", "I", false)
  | _ => ("DecimalDesk$Rough", "lost", "Z", false)
def zy6 : Nat → FieldType := fun k => match k with
  | 0 => .object "DecimalDesk$Natural"
  | 1 => .boolean
  | 2 => .int
  | _ => .boolean
def zR7 : String := "DecimalDesk$Text"
def zT7 : u_T := fun k => match k with
  | 0 => ("DecimalDesk$Text", "chars", "[C", false)
  | _ => ("DecimalDesk$Text", "length", "I", false)
def zy7 : Nat → FieldType := fun k => match k with
  | 0 => .array .char
  | _ => .int
def zR8 : String := "DecimalDeskModel"
def zT8 : u_T := fun k => match k with
  | 0 => ("DecimalDeskModel", "thrown", "I", false)
  | 1 => ("DecimalDeskModel", "draft", "[I", true)
  | 2 => ("DecimalDeskModel", "length", "I", false)
  | 3 => ("DecimalDeskModel", "kept", "[I", true)
  | 4 => ("DecimalDeskModel", "many", "[I", true)
  | 5 => ("DecimalDeskModel", "minus", "[Z", true)
  | 6 => ("DecimalDeskModel", "scales", "[I", true)
  | 7 => ("DecimalDeskModel", "row", "[I", true)
  | 8 => ("DecimalDeskModel", "size", "I", false)
  | 9 => ("DecimalDeskModel", "scale", "J", false)
  | 10 => ("DecimalDeskModel", "more", "Z", false)
  | 11 => ("DecimalDeskModel", "below", "Z", false)
  | 12 => ("DecimalDeskModel", "top", "[I", true)
  | 13 => ("DecimalDeskModel", "topSize", "I", false)
  | 14 => ("DecimalDeskModel", "under", "[I", true)
  | 15 => ("DecimalDeskModel", "underSize", "I", false)
  | 16 => ("DecimalDeskModel", "left", "[I", true)
  | 17 => ("DecimalDeskModel", "leftSize", "I", false)
  | 18 => ("DecimalDeskModel", "paper", "[I", true)
  | 19 => ("DecimalDeskModel", "printed", "I", false)
  | _ => ("DecimalDeskModel", "fault", "I", false)
def zy8 : Nat → FieldType := fun k => match k with
  | 0 => .int
  | 1 => .array .int
  | 2 => .int
  | 3 => .array .int
  | 4 => .array .int
  | 5 => .array .boolean
  | 6 => .array .int
  | 7 => .array .int
  | 8 => .int
  | 9 => .long
  | 10 => .boolean
  | 11 => .boolean
  | 12 => .array .int
  | 13 => .int
  | 14 => .array .int
  | 15 => .int
  | 16 => .array .int
  | 17 => .int
  | 18 => .array .int
  | 19 => .int
  | _ => .int
def zR9 : String := "java/lang/IllegalArgumentException"
def zT9 : u_T := fun _ => ("", "", "", false)
def zR10 : String := "java/lang/IllegalStateException"
def zT10 : u_T := fun _ => ("", "", "", false)
def zR11 : String := "java/lang/ArithmeticException"
def zT11 : u_T := fun _ => ("", "", "", false)
def zR12 : String := "java/lang/IndexOutOfBoundsException"
def zT12 : u_T := fun _ => ("", "", "", false)
def zd_cl : List vw_C := [(zR0, zT0, 8), (zR1, zT1, 3), (zR2, zT2, 1), (zR3, zT3, 8), (zR4, zT4, 2), (zR5, zT5, 4), (zR6, zT6, 4), (zR7, zT7, 2), (zR8, zT8, 21), (zR9, zT9, 0), (zR10, zT10, 0), (zR11, zT11, 0), (zR12, zT12, 0)]
def zd_ty : List FieldType := [.int, .char, .boolean, .long, .object "DecimalDesk$Decimal"]
def zd_CB : Nat := 601024
def zd_SB : Nat := 7293034
/-! THE ABSTRACT MACHINE: cells by address, one walk judgement for all methods, both outcomes -/
/-- a cell: an object (its class's number, its fields); a row of ints (its kind, how long, what); a row of longs; a row of references -/
abbrev zd_C : Type := (Nat × List Value) ⊕ ((Nat × Nat × (Nat → Int32)) ⊕ ((Nat × (Nat → Int64)) ⊕ (Nat × (Nat → Option Nat))))
/-- cells made since the start, their slots, what they hold by address -/
abbrev zd_H : Type := Nat × Nat × (Nat → zd_C)
/-- an outcome: a value, or an exception (its address, its class's number) -/
abbrev zd_O : Type := Option Value ⊕ (Nat × Nat)
/-- the start: its state, the script's address, the classes' numbers, their slots, the array classes' numbers, the table's address -/
abbrev zd_B : Type := State × Nat × (Nat → ClassId) × (Nat → Nat → Nat) × (Nat → ClassId) × Nat
abbrev zd_s0 (B : zd_B) : State := B.1
abbrev zd_b0 (B : zd_B) : Nat := B.1.heap.size
abbrev zd_ar (B : zd_B) : Array Value := #[Value.ref B.2.1]
abbrev zd_dC (B : zd_B) : Nat → ClassId := B.2.2.1
abbrev zd_dI (B : zd_B) : Nat → Nat → Nat := B.2.2.2.1
abbrev zd_aK (B : zd_B) : Nat → ClassId := B.2.2.2.2.1
abbrev zd_tT (B : zd_B) : Nat := B.2.2.2.2.2
/-- a method: name, bytes, locals, what it returns, frames and words that it may nest, its handlers -/
abbrev zd_Y : Type := MethodName × ByteArray × Nat × Option FieldType × Nat × Nat × List (Nat × Nat × Nat × Nat)
abbrev zd_yn (y : zd_Y) : MethodName := y.1
abbrev zd_yb (y : zd_Y) : ByteArray := y.2.1
abbrev zd_yl (y : zd_Y) : Nat := y.2.2.1
abbrev zd_yr (y : zd_Y) : Option FieldType := y.2.2.2.1
abbrev zd_yf (y : zd_Y) : Nat := y.2.2.2.2.1
abbrev zd_yw (y : zd_Y) : Nat := y.2.2.2.2.2.1
abbrev zd_yh (y : zd_Y) : List (Nat × Nat × Nat × Nat) := y.2.2.2.2.2.2
def zd_set (h : zd_H) (a : Nat) (c : zd_C) : zd_H := (h.1, h.2.1, fun q => if q = a then c else h.2.2 q)
def zd_push (h : zd_H) (a : Nat) (c : zd_C) (n : Nat) : zd_H := (h.1 + 1, h.2.1 + n, fun q => if q = a then c else h.2.2 q)
/-- what a cell is on the heap -/
def zd_at (B : zd_B) (H : Heap) (a : Nat) (c : zd_C) : Prop := match c with
  | .inl o => ∃ r : vw_C, zd_cl[o.1]? = some r ∧ t_OB a (zd_dC B o.1) r.2.2 (zd_dI B o.1) H (vp_V o.2)
  | .inr (.inl x) => H[a]? = some (arrV (zd_aK B x.1) x.2.1 (fun j => .int (x.2.2 j)))
  | .inr (.inr (.inl x)) => H[a]? = some (arrV (zd_aK B 3) x.1 (fun j => .long (x.2 j)))
  | .inr (.inr (.inr x)) => H[a]? = some (arrV (zd_aK B 4) x.1 (fun j => va_rf (x.2 j)))
def zd_lv (B : zd_B) (h : zd_H) (a : Nat) : Prop := zd_b0 B ≤ a ∧ a < zd_b0 B + h.1
/-- the heap is what h says -/
def zd_R (B : zd_B) (h : zd_H) (H : Heap) : Prop := H.size = zd_b0 B + h.1 ∧ (∀ a, zd_lv B h a → zd_at B H a (h.2.2 a)) ∧ ∀ q, q < zd_b0 B → H[q]? = (zd_s0 B).heap[q]?
/-- an object of class ci with the fields fs -/
def zd_Ob (B : zd_B) (h : zd_H) (a ci : Nat) (fs : List Value) : Prop := zd_lv B h a ∧ h.2.2 a = .inl (ci, fs)
def zd_Ai (B : zd_B) (h : zd_H) (a k n : Nat) (f : Nat → Int32) : Prop := zd_lv B h a ∧ h.2.2 a = .inr (.inl (k, n, f))
def zd_Al (B : zd_B) (h : zd_H) (a n : Nat) (f : Nat → Int64) : Prop := zd_lv B h a ∧ h.2.2 a = .inr (.inr (.inl (n, f)))
def zd_Ar (B : zd_B) (h : zd_H) (a n : Nat) (f : Nat → Option Nat) : Prop := zd_lv B h a ∧ h.2.2 a = .inr (.inr (.inr (n, f)))
/-- a row of ints that was there at the start, and that nobody writes -/
def zd_Ol (B : zd_B) (a n : Nat) (f : Nat → Int32) : Prop := ∃ cell : Cell, (zd_s0 B).heap[a]? = some cell ∧ (zd_s0 B).isArrayOf cell .int ∧ cell.vm ≠ .unknown ∧ cell.slots.size.toInt32 = Int32.ofNat n ∧ n ≤ cell.slots.size ∧ ∀ j, j < n → cell.slots[j]? = some (.int (f j))
/-- the locals: place by place what is known of them -/
abbrev zd_V : Type := List (Option Value)
def zd_Lh (arr : Array Slot) (n : Nat) (ls : zd_V) : Prop := arr.size = n ∧ lv_wf arr ∧ ∀ (i : Nat) (v : Value), ls[i]? = some (some v) → arr[i]? = some (.val v)
def zd_cut (ls : zd_V) (i : Nat) : zd_V := match i with
  | 0 => ls
  | j + 1 => match ls[j]? with
    | some (some v) => cond (Nat.beq v.category 2) (ls.set j none) ls
    | _ => ls
def zd_st1 (ls : zd_V) (i : Nat) (v : Value) : zd_V := (zd_cut ls i).set i (some v)
def zd_st2 (ls : zd_V) (i : Nat) (v : Value) : zd_V := ((zd_cut ls i).set i (some v)).set (i + 1) none
def zd_Oe (x : zd_O) (o : Outcome) : Prop := match x with
  | .inl v => o = .returned v
  | .inr q => o = .threw q.1
/-- where a method's walk ends -/
def zd_F (B : zd_B) (s : State) (below : List Frame) (c0 n0 : Nat) (Q : zd_O → zd_H → Prop) : State → Prop := fun t =>
  ∃ (o : Outcome) (x : zd_O) (h : zd_H), t.status = .running ∧ Ended t below o ∧ zd_Oe x o ∧ Q x h ∧ (∀ q, x = .inr q → ∃ fs, zd_Ob B h q.1 q.2 fs) ∧ (c0 ≤ h.1 ∧ n0 ≤ h.2.1 ∧ h.1 ≤ zd_CB ∧ h.2.1 ≤ zd_SB) ∧ zd_R B h t.heap ∧ s.WarmedH t.vm ∧
    ∃ L : List Loc, (∀ q ∈ L, zd_b0 B ≤ q.base) ∧ s.sameButNew ({ t with vm := s.vm } : State) L (h.1 - c0) (h.2.1 - n0)
/-- what holds all along a method's walk -/
def zd_X (B : zd_B) (y : zd_Y) (p : Program) (R : Room) (s : State) (m : MethodId) (meth : Method) (c : Code) (c0 n0 : Nat) : Prop :=
  p.tables.exec = Jvm.exec ∧ c.code = zd_yb y ∧ c.maxLocals = zd_yl y ∧ meth.sig.returnType = zd_yr y ∧ meth.locks = false ∧ s.methodNamed? (zd_yn y) = some m ∧ s.vm.method? m = some meth ∧ (zd_s0 B).WarmedH s.vm ∧
  (c.exceptionTable.toList.map (fun x => (x.startPc, x.endPc, x.handlerPc, x.catchType)) = zd_yh y) ∧ zd_yf y ≤ R.frames ∧ zd_yw y ≤ R.locals ∧ zd_CB ≤ R.cells + c0 ∧ zd_SB ≤ R.slots + n0 ∧ s.heap.size = zd_b0 B + c0
/-- THE WALK: from pc, with these locals, this stack, this heap, the method y comes to an end that Q allows -/
def zd_W (l : Launch) (B : zd_B) (y : zd_Y) (pc : Nat) (ls : zd_V) (st : List Value) (h : zd_H) (Q : zd_O → zd_H → Prop) : Prop :=
  ∀ (p : Program) (e : Env) (R : Room) (s : State) (m : MethodId) (args : Array Value) (below : List Frame) (meth : Method) (c : Code) (c0 n0 : Nat), zd_X B y p R s m meth c c0 n0 →
    (c0 ≤ h.1 ∧ n0 ≤ h.2.1 ∧ h.1 ≤ zd_CB ∧ h.2.1 ≤ zd_SB) → ∀ (H : Heap) (locs : List Loc) (arr : Array Slot), zd_R B h H → (∀ q ∈ locs, zd_b0 B ≤ q.base) → zd_Lh arr (zd_yl y) ls →
    W p l e R s m args below meth c H locs (h.1 - c0) (h.2.1 - n0) (zd_F B s below c0 n0 Q) (F0 m pc arr st)
/-- a call's places, from the arguments on -/
def zd_ent : List Value → zd_V
  | [] => []
  | v :: r => some v :: cond (Nat.beq v.category 2) (none :: zd_ent r) (zd_ent r)
def zd_pad (n : Nat) (ls : zd_V) : zd_V := ls ++ List.replicate (n - ls.length) none
/-- a method called with these arguments -/
def zd_M (l : Launch) (B : zd_B) (y : zd_Y) (as : List Value) (h : zd_H) (Q : zd_O → zd_H → Prop) : Prop := zd_W l B y 0 (zd_pad (zd_yl y) (zd_ent as)) [] h Q
abbrev zd_K : Type := Nat → zd_V → List Value → zd_H → Prop
/-- an instruction: from what holds behind it to what must hold before it -/
abbrev zd_S : Type := zd_K → zd_V → List Value → zd_H → (zd_O → zd_H → Prop) → Prop
def zd_ok (l : Launch) (B : zd_B) (y : zd_Y) (pc : Nat) (f : zd_S) : Prop := ∀ (K : zd_K) (ls : zd_V) (st : List Value) (h : zd_H) (Q : zd_O → zd_H → Prop), (∀ pc' ls' st' h', K pc' ls' st' h' → zd_W l B y pc' ls' st' h' Q) → f K ls st h Q → zd_W l B y pc ls st h Q
def zd_lk : List (Nat × zd_S) → Nat → Option zd_S
  | [], _ => none
  | q :: r, pc => cond (Nat.beq q.1 pc) (some q.2) (zd_lk r pc)
def zd_isin : List Nat → Nat → Bool
  | [], _ => false
  | q :: r, pc => cond (Nat.beq q pc) true (zd_isin r pc)
/-- up to n instructions on, or up to a place of 'stop' -/
def zd_b (l : Launch) (B : zd_B) (y : zd_Y) (cd : List (Nat × zd_S)) (stop : List Nat) (Q : zd_O → zd_H → Prop) (n : Nat) : zd_K :=
  @Nat.rec (fun _ => zd_K) (fun pc ls st h => zd_W l B y pc ls st h Q ∧ True) (fun _ ih pc ls st h => cond (zd_isin stop pc) (zd_W l B y pc ls st h Q ∧ True) (match zd_lk cd pc with
    | some f => f ih ls st h Q
    | none => False)) n
/-- the locals written out -/
def zd_fl (ls : zd_V) (k : zd_V → Prop) : Prop := @List.rec (Option Value) (fun _ => (zd_V → Prop) → Prop) (fun k => k []) (fun x _ ih k => ih (fun s => k (x :: s))) ls k
theorem zd_fl_eq {ls : zd_V} {k : zd_V → Prop} (q : zd_fl ls k) : k ls := by
  induction ls generalizing k with
  | nil => exact q
  | cons x r ih => exact ih (k := fun s => k (x :: s)) q
/-- the same, the first instruction in any case -/
def zd_g (l : Launch) (B : zd_B) (y : zd_Y) (cd : List (Nat × zd_S)) (stop : List Nat) (n : Nat) : zd_V → List Value → zd_H → (zd_O → zd_H → Prop) → Nat → Prop := fun ls st h Q pc => zd_fl ls (fun ls =>
  match zd_lk cd pc with
    | some f => f (zd_b l B y cd stop Q n) ls st h Q
    | none => False)
theorem zd_lk_in {cd : List (Nat × zd_S)} {pc : Nat} {f : zd_S} (h : zd_lk cd pc = some f) : (pc, f) ∈ cd := by
  induction cd with
  | nil => cases h
  | cons q r ih =>
    unfold zd_lk at h
    cases hq : Nat.beq q.1 pc with
    | true =>
      rw [hq] at h
      have e1 : q.2 = f := Option.some.inj h
      have e2 : q.1 = pc := Nat.eq_of_beq_eq_true hq
      rw [← e1, ← e2]
      exact List.mem_cons_self
    | false =>
      rw [hq] at h
      exact List.mem_cons_of_mem _ (ih h)
theorem zd_b_ok {l : Launch} {B : zd_B} {y : zd_Y} {cd : List (Nat × zd_S)} (hcd : ∀ q ∈ cd, zd_ok l B y q.1 q.2) {stop : List Nat} {Q : zd_O → zd_H → Prop} (n : Nat) :
    ∀ pc ls st h, zd_b l B y cd stop Q n pc ls st h → zd_W l B y pc ls st h Q := by
  induction n with
  | zero => exact fun pc ls st h q => q.1
  | succ n ih =>
    intro pc ls st h q
    have q' : cond (zd_isin stop pc) (zd_W l B y pc ls st h Q ∧ True) (match zd_lk cd pc with
      | some f => f (zd_b l B y cd stop Q n) ls st h Q
      | none => False) := q
    cases hs : zd_isin stop pc with
    | true => rw [hs] at q'; exact q'.1
    | false =>
      rw [hs] at q'
      have q2 : (match zd_lk cd pc with
        | some f => f (zd_b l B y cd stop Q n) ls st h Q
        | none => False) := q'
      cases hf : zd_lk cd pc with
      | none => rw [hf] at q2; exact q2.elim
      | some f =>
        rw [hf] at q2
        exact hcd _ (zd_lk_in hf) _ ls st h Q ih q2
theorem zd_go {l : Launch} {B : zd_B} {y : zd_Y} {cd : List (Nat × zd_S)} (hcd : ∀ q ∈ cd, zd_ok l B y q.1 q.2) (stop : List Nat) (n : Nat) {Q : zd_O → zd_H → Prop} {pc : Nat} {ls : zd_V} {st : List Value} {h : zd_H}
    (q : zd_g l B y cd stop n ls st h Q pc) : zd_W l B y pc ls st h Q := by
  unfold zd_g at q
  have q : (match zd_lk cd pc with
    | some f => f (zd_b l B y cd stop Q n) ls st h Q
    | none => False) := zd_fl_eq q
  cases hf : zd_lk cd pc with
  | none => rw [hf] at q; exact q.elim
  | some f =>
    rw [hf] at q
    exact hcd _ (zd_lk_in hf) _ ls st h Q (zd_b_ok hcd n) q
/-- more may be known of the end -/
theorem zd_W.post {l : Launch} {B : zd_B} {y : zd_Y} {pc : Nat} {ls : zd_V} {st : List Value} {h : zd_H} {Q Q' : zd_O → zd_H → Prop} (k : zd_W l B y pc ls st h Q) (hq : ∀ x g, Q x g → Q' x g) : zd_W l B y pc ls st h Q' := by
  intro p e R s m args below meth c c0 n0 hX hc H locs arr hR hL hA T hT X
  obtain ⟨t, a, o, x, g, b1, b2, b3, b4, b5⟩ := k p e R s m args below meth c c0 n0 hX hc H locs arr hR hL hA T hT X
  exact ⟨t, a, o, x, g, b1, b2, b3, hq x g b4, b5⟩
theorem zd_M.post {l : Launch} {B : zd_B} {y : zd_Y} {as : List Value} {h : zd_H} {Q Q' : zd_O → zd_H → Prop} (k : zd_M l B y as h Q) (hq : ∀ x g, Q x g → Q' x g) : zd_M l B y as h Q' := zd_W.post k hq
/-- less may be known of the locals -/
theorem zd_W.less {l : Launch} {B : zd_B} {y : zd_Y} {pc : Nat} {ls ls' : zd_V} {st : List Value} {h : zd_H} {Q : zd_O → zd_H → Prop} (k : zd_W l B y pc ls' st h Q) (hl : ∀ (i : Nat) (v : Value), ls'[i]? = some (some v) → ls[i]? = some (some v)) : zd_W l B y pc ls st h Q := by
  intro p e R s m args below meth c c0 n0 hX hc H locs arr hR hL hA
  exact k p e R s m args below meth c c0 n0 hX hc H locs arr hR hL ⟨hA.1, hA.2.1, fun i v q => hA.2.2 i v (hl i v q)⟩
/-! the locals -/
def zd_lp (ls : zd_V) : List (Nat × Value) := (List.range ls.length).filterMap (fun i => match ls[i]? with
  | some (some v) => some (i, v)
  | _ => none)
theorem zd_lp_mem {ls : zd_V} {i : Nat} {v : Value} : (i, v) ∈ zd_lp ls ↔ ls[i]? = some (some v) := by
  unfold zd_lp
  rw [List.mem_filterMap]
  constructor
  · rintro ⟨j, -, hj⟩
    split at hj
    · rename_i w hw
      cases hj
      exact hw
    · cases hj
  · intro h
    refine ⟨i, List.mem_range.mpr (List.getElem?_eq_some_iff.mp h).1, ?_⟩
    rw [h]
theorem zd_Lh.has {arr : Array Slot} {n : Nat} {ls : zd_V} (h : zd_Lh arr n ls) : lv_has arr n (zd_lp ls) := ⟨h.1, h.2.1, fun q hq => h.2.2 q.1 q.2 (zd_lp_mem.mp hq)⟩
theorem zd_cut_get {ls : zd_V} {i j : Nat} {w : Value} (h : (zd_cut ls i)[j]? = some (some w)) : ls[j]? = some (some w) ∧ ¬ (j + 1 = i ∧ w.category = 2) := by
  unfold zd_cut at h
  split at h
  · exact ⟨h, fun q => by omega⟩
  · rename_i k
    split at h
    · rename_i v hv
      cases hc : Nat.beq v.category 2 with
      | true =>
        rw [hc] at h
        have h' : (ls.set k none)[j]? = some (some w) := h
        rw [List.getElem?_set] at h'
        split at h'
        · split at h'
          · cases h'
          · cases h'
        · rename_i hk
          exact ⟨h', fun q => hk (by omega)⟩
      | false =>
        rw [hc] at h
        have h' : ls[j]? = some (some w) := h
        refine ⟨h', fun q => ?_⟩
        have e1 : j = k := by omega
        rw [e1, hv] at h'
        cases h'
        rw [q.2] at hc
        cases hc
    · rename_i hn
      refine ⟨h, fun q => ?_⟩
      have e1 : j = k := by omega
      rw [e1] at h
      exact hn w h
theorem zd_Lh.st1 {arr' : Array Slot} {n i : Nat} {v : Value} {ls : zd_V} (hl : lv_has arr' n ((i, v) :: (zd_lp ls).filter (fun q => !(q.1 == i) && !(q.1 + 1 == i && q.2.category == 2)))) : zd_Lh arr' n (zd_st1 ls i v) := by
  refine ⟨hl.1, hl.2.1, fun j w hj => ?_⟩
  unfold zd_st1 at hj
  rw [List.getElem?_set] at hj
  split at hj
  · rename_i hij
    split at hj
    · cases hj
      rw [← hij]
      exact hl.2.2 (i, v) List.mem_cons_self
    · cases hj
  · rename_i hij
    obtain ⟨h1, h2⟩ := zd_cut_get hj
    refine hl.2.2 (j, w) (List.mem_cons_of_mem _ (List.mem_filter.mpr ⟨zd_lp_mem.mpr h1, ?_⟩))
    have e1 : (j == i) = false := by simp; omega
    have e2 : (j + 1 == i && w.category == 2) = false := by
      cases hq : (j + 1 == i && w.category == 2) with
      | false => rfl
      | true =>
        simp at hq
        exact absurd hq h2
    simp only [e1, e2]
    rfl
theorem zd_Lh.st2 {arr' : Array Slot} {n i : Nat} {v : Value} {ls : zd_V} (hl : lv_has arr' n ((i, v) :: (zd_lp ls).filter (fun q => !(q.1 == i) && (!(q.1 == i + 1) && !(q.1 + 1 == i && q.2.category == 2))))) : zd_Lh arr' n (zd_st2 ls i v) := by
  refine ⟨hl.1, hl.2.1, fun j w hj => ?_⟩
  unfold zd_st2 at hj
  rw [List.getElem?_set] at hj
  split at hj
  · split at hj
    · cases hj
    · cases hj
  · rename_i hij1
    rw [List.getElem?_set] at hj
    split at hj
    · rename_i hij
      split at hj
      · cases hj
        rw [← hij]
        exact hl.2.2 (i, v) List.mem_cons_self
      · cases hj
    · rename_i hij
      obtain ⟨h1, h2⟩ := zd_cut_get hj
      refine hl.2.2 (j, w) (List.mem_cons_of_mem _ (List.mem_filter.mpr ⟨zd_lp_mem.mpr h1, ?_⟩))
      have e1 : (j == i) = false := by simp; omega
      have e3 : (j == i + 1) = false := by simp; omega
      have e2 : (j + 1 == i && w.category == 2) = false := by
        cases hq : (j + 1 == i && w.category == 2) with
        | false => rfl
        | true =>
          simp at hq
          exact absurd hq h2
      simp only [e1, e2, e3]
      rfl
theorem zd_ent_in {as : List Value} : ∀ {i j : Nat} {v : Value}, (zd_ent as)[j]? = some (some v) → (i + j, v) ∈ lv_args i as := by
  induction as with
  | nil => intro i j v h; simp [zd_ent] at h
  | cons a r ih =>
    intro i j v h
    unfold zd_ent at h
    unfold lv_args
    cases j with
    | zero =>
      simp at h
      rw [h]
      exact List.mem_cons_self
    | succ j =>
      rw [List.getElem?_cons_succ] at h
      refine List.mem_cons_of_mem _ ?_
      cases hc : Nat.beq a.category 2 with
      | true =>
        rw [hc] at h
        have hc' : a.category = 2 := Nat.eq_of_beq_eq_true hc
        rw [if_pos hc']
        cases j with
        | zero => simp at h
        | succ j =>
          have h' : (zd_ent r)[j]? = some (some v) := by simpa using h
          have := ih (i := i + 2) h'
          rw [show i + (j + 1 + 1) = i + 2 + j by omega]
          exact this
      | false =>
        rw [hc] at h
        have hc' : ¬ a.category = 2 := fun q => by rw [q] at hc; cases hc
        rw [if_neg hc']
        have h' : (zd_ent r)[j]? = some (some v) := h
        have := ih (i := i + 1) h'
        rw [show i + (j + 1) = i + 1 + j by omega]
        exact this
theorem zd_Lh.entry (as : List Value) {n : Nat} (h : (lg_sl as).length ≤ n) : zd_Lh ((lg_sl as ++ List.replicate (n - (lg_sl as).length) Slot.unset).toArray) n (zd_pad n (zd_ent as)) := by
  have hl := lv_entry as h
  refine ⟨hl.1, hl.2.1, fun i v hi => ?_⟩
  unfold zd_pad at hi
  by_cases hlt : i < (zd_ent as).length
  · rw [List.getElem?_append_left hlt] at hi
    have := hl.2.2 _ (zd_ent_in (i := 0) hi)
    simpa using this
  · rw [List.getElem?_append_right (by omega), List.getElem?_replicate] at hi
    split at hi
    · cases hi
    · cases hi

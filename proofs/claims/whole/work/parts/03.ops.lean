/-! the plain instructions (written by gen_ops.py) -/
def oc_iadd (nx : Nat) : zd_S := fun K ls st h _ => match st with
  | .int y :: .int x :: r => K nx ls (.int (x + y) :: r) h
  | _ => False
theorem ok_iadd {l : Launch} {B : zd_B} {y : zd_Y} {pc : Nat} (hd : decode (zd_yb y) pc = .ok (.iadd, 1)) : zd_ok l B y pc (oc_iadd (pc + 1)) := by
  intro K ls st h Q hK q
  unfold oc_iadd at q
  split at q
  · intro p e R s m args below meth c c0 n0 hX hc H locs arr hR hL hA
    exact lv_iadd hX.1 hX.2.1 hd (hK _ _ _ _ q p e R s m args below meth c c0 n0 hX hc H locs arr hR hL hA)
  · exact q.elim
def oc_isub (nx : Nat) : zd_S := fun K ls st h _ => match st with
  | .int y :: .int x :: r => K nx ls (.int (x - y) :: r) h
  | _ => False
theorem ok_isub {l : Launch} {B : zd_B} {y : zd_Y} {pc : Nat} (hd : decode (zd_yb y) pc = .ok (.isub, 1)) : zd_ok l B y pc (oc_isub (pc + 1)) := by
  intro K ls st h Q hK q
  unfold oc_isub at q
  split at q
  · intro p e R s m args below meth c c0 n0 hX hc H locs arr hR hL hA
    exact lv_isub hX.1 hX.2.1 hd (hK _ _ _ _ q p e R s m args below meth c c0 n0 hX hc H locs arr hR hL hA)
  · exact q.elim
def oc_imul (nx : Nat) : zd_S := fun K ls st h _ => match st with
  | .int y :: .int x :: r => K nx ls (.int (x * y) :: r) h
  | _ => False
theorem ok_imul {l : Launch} {B : zd_B} {y : zd_Y} {pc : Nat} (hd : decode (zd_yb y) pc = .ok (.imul, 1)) : zd_ok l B y pc (oc_imul (pc + 1)) := by
  intro K ls st h Q hK q
  unfold oc_imul at q
  split at q
  · intro p e R s m args below meth c c0 n0 hX hc H locs arr hR hL hA
    exact lv_imul hX.1 hX.2.1 hd (hK _ _ _ _ q p e R s m args below meth c c0 n0 hX hc H locs arr hR hL hA)
  · exact q.elim
def oc_iand (nx : Nat) : zd_S := fun K ls st h _ => match st with
  | .int y :: .int x :: r => K nx ls (.int (x &&& y) :: r) h
  | _ => False
theorem ok_iand {l : Launch} {B : zd_B} {y : zd_Y} {pc : Nat} (hd : decode (zd_yb y) pc = .ok (.iand, 1)) : zd_ok l B y pc (oc_iand (pc + 1)) := by
  intro K ls st h Q hK q
  unfold oc_iand at q
  split at q
  · intro p e R s m args below meth c c0 n0 hX hc H locs arr hR hL hA
    exact lv_iand hX.1 hX.2.1 hd (hK _ _ _ _ q p e R s m args below meth c c0 n0 hX hc H locs arr hR hL hA)
  · exact q.elim
def oc_ior (nx : Nat) : zd_S := fun K ls st h _ => match st with
  | .int y :: .int x :: r => K nx ls (.int (x ||| y) :: r) h
  | _ => False
theorem ok_ior {l : Launch} {B : zd_B} {y : zd_Y} {pc : Nat} (hd : decode (zd_yb y) pc = .ok (.ior, 1)) : zd_ok l B y pc (oc_ior (pc + 1)) := by
  intro K ls st h Q hK q
  unfold oc_ior at q
  split at q
  · intro p e R s m args below meth c c0 n0 hX hc H locs arr hR hL hA
    exact lv_ior hX.1 hX.2.1 hd (hK _ _ _ _ q p e R s m args below meth c c0 n0 hX hc H locs arr hR hL hA)
  · exact q.elim
def oc_ixor (nx : Nat) : zd_S := fun K ls st h _ => match st with
  | .int y :: .int x :: r => K nx ls (.int (x ^^^ y) :: r) h
  | _ => False
theorem ok_ixor {l : Launch} {B : zd_B} {y : zd_Y} {pc : Nat} (hd : decode (zd_yb y) pc = .ok (.ixor, 1)) : zd_ok l B y pc (oc_ixor (pc + 1)) := by
  intro K ls st h Q hK q
  unfold oc_ixor at q
  split at q
  · intro p e R s m args below meth c c0 n0 hX hc H locs arr hR hL hA
    exact lv_ixor hX.1 hX.2.1 hd (hK _ _ _ _ q p e R s m args below meth c c0 n0 hX hc H locs arr hR hL hA)
  · exact q.elim
def oc_ladd (nx : Nat) : zd_S := fun K ls st h _ => match st with
  | .long y :: .long x :: r => K nx ls (.long (x + y) :: r) h
  | _ => False
theorem ok_ladd {l : Launch} {B : zd_B} {y : zd_Y} {pc : Nat} (hd : decode (zd_yb y) pc = .ok (.ladd, 1)) : zd_ok l B y pc (oc_ladd (pc + 1)) := by
  intro K ls st h Q hK q
  unfold oc_ladd at q
  split at q
  · intro p e R s m args below meth c c0 n0 hX hc H locs arr hR hL hA
    exact lv_ladd hX.1 hX.2.1 hd (hK _ _ _ _ q p e R s m args below meth c c0 n0 hX hc H locs arr hR hL hA)
  · exact q.elim
def oc_lsub (nx : Nat) : zd_S := fun K ls st h _ => match st with
  | .long y :: .long x :: r => K nx ls (.long (x - y) :: r) h
  | _ => False
theorem ok_lsub {l : Launch} {B : zd_B} {y : zd_Y} {pc : Nat} (hd : decode (zd_yb y) pc = .ok (.lsub, 1)) : zd_ok l B y pc (oc_lsub (pc + 1)) := by
  intro K ls st h Q hK q
  unfold oc_lsub at q
  split at q
  · intro p e R s m args below meth c c0 n0 hX hc H locs arr hR hL hA
    exact lv_lsub hX.1 hX.2.1 hd (hK _ _ _ _ q p e R s m args below meth c c0 n0 hX hc H locs arr hR hL hA)
  · exact q.elim
def oc_lmul (nx : Nat) : zd_S := fun K ls st h _ => match st with
  | .long y :: .long x :: r => K nx ls (.long (x * y) :: r) h
  | _ => False
theorem ok_lmul {l : Launch} {B : zd_B} {y : zd_Y} {pc : Nat} (hd : decode (zd_yb y) pc = .ok (.lmul, 1)) : zd_ok l B y pc (oc_lmul (pc + 1)) := by
  intro K ls st h Q hK q
  unfold oc_lmul at q
  split at q
  · intro p e R s m args below meth c c0 n0 hX hc H locs arr hR hL hA
    exact lv_lmul hX.1 hX.2.1 hd (hK _ _ _ _ q p e R s m args below meth c c0 n0 hX hc H locs arr hR hL hA)
  · exact q.elim
def oc_land (nx : Nat) : zd_S := fun K ls st h _ => match st with
  | .long y :: .long x :: r => K nx ls (.long (x &&& y) :: r) h
  | _ => False
theorem ok_land {l : Launch} {B : zd_B} {y : zd_Y} {pc : Nat} (hd : decode (zd_yb y) pc = .ok (.land, 1)) : zd_ok l B y pc (oc_land (pc + 1)) := by
  intro K ls st h Q hK q
  unfold oc_land at q
  split at q
  · intro p e R s m args below meth c c0 n0 hX hc H locs arr hR hL hA
    exact lv_land hX.1 hX.2.1 hd (hK _ _ _ _ q p e R s m args below meth c c0 n0 hX hc H locs arr hR hL hA)
  · exact q.elim
def oc_lor (nx : Nat) : zd_S := fun K ls st h _ => match st with
  | .long y :: .long x :: r => K nx ls (.long (x ||| y) :: r) h
  | _ => False
theorem ok_lor {l : Launch} {B : zd_B} {y : zd_Y} {pc : Nat} (hd : decode (zd_yb y) pc = .ok (.lor, 1)) : zd_ok l B y pc (oc_lor (pc + 1)) := by
  intro K ls st h Q hK q
  unfold oc_lor at q
  split at q
  · intro p e R s m args below meth c c0 n0 hX hc H locs arr hR hL hA
    exact lv_lor hX.1 hX.2.1 hd (hK _ _ _ _ q p e R s m args below meth c c0 n0 hX hc H locs arr hR hL hA)
  · exact q.elim
def oc_lxor (nx : Nat) : zd_S := fun K ls st h _ => match st with
  | .long y :: .long x :: r => K nx ls (.long (x ^^^ y) :: r) h
  | _ => False
theorem ok_lxor {l : Launch} {B : zd_B} {y : zd_Y} {pc : Nat} (hd : decode (zd_yb y) pc = .ok (.lxor, 1)) : zd_ok l B y pc (oc_lxor (pc + 1)) := by
  intro K ls st h Q hK q
  unfold oc_lxor at q
  split at q
  · intro p e R s m args below meth c c0 n0 hX hc H locs arr hR hL hA
    exact lv_lxor hX.1 hX.2.1 hd (hK _ _ _ _ q p e R s m args below meth c c0 n0 hX hc H locs arr hR hL hA)
  · exact q.elim
def oc_idiv (nx : Nat) : zd_S := fun K ls st h _ => match st with
  | .int y :: .int x :: r => ¬ y = 0 ∧ K nx ls (.int (x / y) :: r) h
  | _ => False
theorem ok_idiv {l : Launch} {B : zd_B} {y : zd_Y} {pc : Nat} (hd : decode (zd_yb y) pc = .ok (.idiv, 1)) : zd_ok l B y pc (oc_idiv (pc + 1)) := by
  intro K ls st h Q hK q
  unfold oc_idiv at q
  split at q
  · intro p e R s m args below meth c c0 n0 hX hc H locs arr hR hL hA
    exact lv_idiv hX.1 hX.2.1 hd q.1 (hK _ _ _ _ q.2 p e R s m args below meth c c0 n0 hX hc H locs arr hR hL hA)
  · exact q.elim
def oc_irem (nx : Nat) : zd_S := fun K ls st h _ => match st with
  | .int y :: .int x :: r => ¬ y = 0 ∧ K nx ls (.int (x - x / y * y) :: r) h
  | _ => False
theorem ok_irem {l : Launch} {B : zd_B} {y : zd_Y} {pc : Nat} (hd : decode (zd_yb y) pc = .ok (.irem, 1)) : zd_ok l B y pc (oc_irem (pc + 1)) := by
  intro K ls st h Q hK q
  unfold oc_irem at q
  split at q
  · intro p e R s m args below meth c c0 n0 hX hc H locs arr hR hL hA
    exact lv_irem hX.1 hX.2.1 hd q.1 (hK _ _ _ _ q.2 p e R s m args below meth c c0 n0 hX hc H locs arr hR hL hA)
  · exact q.elim
def oc_ldiv (nx : Nat) : zd_S := fun K ls st h _ => match st with
  | .long y :: .long x :: r => ¬ y = 0 ∧ K nx ls (.long (x / y) :: r) h
  | _ => False
theorem ok_ldiv {l : Launch} {B : zd_B} {y : zd_Y} {pc : Nat} (hd : decode (zd_yb y) pc = .ok (.ldiv, 1)) : zd_ok l B y pc (oc_ldiv (pc + 1)) := by
  intro K ls st h Q hK q
  unfold oc_ldiv at q
  split at q
  · intro p e R s m args below meth c c0 n0 hX hc H locs arr hR hL hA
    exact lv_ldiv hX.1 hX.2.1 hd q.1 (hK _ _ _ _ q.2 p e R s m args below meth c c0 n0 hX hc H locs arr hR hL hA)
  · exact q.elim
def oc_lrem (nx : Nat) : zd_S := fun K ls st h _ => match st with
  | .long y :: .long x :: r => ¬ y = 0 ∧ K nx ls (.long (x - x / y * y) :: r) h
  | _ => False
theorem ok_lrem {l : Launch} {B : zd_B} {y : zd_Y} {pc : Nat} (hd : decode (zd_yb y) pc = .ok (.lrem, 1)) : zd_ok l B y pc (oc_lrem (pc + 1)) := by
  intro K ls st h Q hK q
  unfold oc_lrem at q
  split at q
  · intro p e R s m args below meth c c0 n0 hX hc H locs arr hR hL hA
    exact lv_lrem hX.1 hX.2.1 hd q.1 (hK _ _ _ _ q.2 p e R s m args below meth c c0 n0 hX hc H locs arr hR hL hA)
  · exact q.elim
def oc_ineg (nx : Nat) : zd_S := fun K ls st h _ => match st with
  | .int x :: r => K nx ls (.int (-x) :: r) h
  | _ => False
theorem ok_ineg {l : Launch} {B : zd_B} {y : zd_Y} {pc : Nat} (hd : decode (zd_yb y) pc = .ok (.ineg, 1)) : zd_ok l B y pc (oc_ineg (pc + 1)) := by
  intro K ls st h Q hK q
  unfold oc_ineg at q
  split at q
  · intro p e R s m args below meth c c0 n0 hX hc H locs arr hR hL hA
    exact lv_ineg hX.1 hX.2.1 hd (hK _ _ _ _ q p e R s m args below meth c c0 n0 hX hc H locs arr hR hL hA)
  · exact q.elim
def oc_lneg (nx : Nat) : zd_S := fun K ls st h _ => match st with
  | .long x :: r => K nx ls (.long (-x) :: r) h
  | _ => False
theorem ok_lneg {l : Launch} {B : zd_B} {y : zd_Y} {pc : Nat} (hd : decode (zd_yb y) pc = .ok (.lneg, 1)) : zd_ok l B y pc (oc_lneg (pc + 1)) := by
  intro K ls st h Q hK q
  unfold oc_lneg at q
  split at q
  · intro p e R s m args below meth c c0 n0 hX hc H locs arr hR hL hA
    exact lv_lneg hX.1 hX.2.1 hd (hK _ _ _ _ q p e R s m args below meth c c0 n0 hX hc H locs arr hR hL hA)
  · exact q.elim
def oc_ishl (nx : Nat) : zd_S := fun K ls st h _ => match st with
  | .int y :: .int x :: r => K nx ls (.int (x <<< (y &&& 31)) :: r) h
  | _ => False
theorem ok_ishl {l : Launch} {B : zd_B} {y : zd_Y} {pc : Nat} (hd : decode (zd_yb y) pc = .ok (.ishl, 1)) : zd_ok l B y pc (oc_ishl (pc + 1)) := by
  intro K ls st h Q hK q
  unfold oc_ishl at q
  split at q
  · intro p e R s m args below meth c c0 n0 hX hc H locs arr hR hL hA
    exact lv_ishl hX.1 hX.2.1 hd (hK _ _ _ _ q p e R s m args below meth c c0 n0 hX hc H locs arr hR hL hA)
  · exact q.elim
def oc_ishr (nx : Nat) : zd_S := fun K ls st h _ => match st with
  | .int y :: .int x :: r => K nx ls (.int (x >>> (y &&& 31)) :: r) h
  | _ => False
theorem ok_ishr {l : Launch} {B : zd_B} {y : zd_Y} {pc : Nat} (hd : decode (zd_yb y) pc = .ok (.ishr, 1)) : zd_ok l B y pc (oc_ishr (pc + 1)) := by
  intro K ls st h Q hK q
  unfold oc_ishr at q
  split at q
  · intro p e R s m args below meth c c0 n0 hX hc H locs arr hR hL hA
    exact lv_ishr hX.1 hX.2.1 hd (hK _ _ _ _ q p e R s m args below meth c c0 n0 hX hc H locs arr hR hL hA)
  · exact q.elim
def oc_iushr (nx : Nat) : zd_S := fun K ls st h _ => match st with
  | .int y :: .int x :: r => K nx ls (.int (x.toUInt32 >>> (y.toUInt32 &&& Int32.toUInt32 31)).toInt32 :: r) h
  | _ => False
theorem ok_iushr {l : Launch} {B : zd_B} {y : zd_Y} {pc : Nat} (hd : decode (zd_yb y) pc = .ok (.iushr, 1)) : zd_ok l B y pc (oc_iushr (pc + 1)) := by
  intro K ls st h Q hK q
  unfold oc_iushr at q
  split at q
  · intro p e R s m args below meth c c0 n0 hX hc H locs arr hR hL hA
    exact lv_iushr hX.1 hX.2.1 hd rfl (hK _ _ _ _ q p e R s m args below meth c c0 n0 hX hc H locs arr hR hL hA)
  · exact q.elim
def oc_lushr (nx : Nat) : zd_S := fun K ls st h _ => match st with
  | .int y :: .long x :: r => K nx ls (.long (x.toUInt64 >>> (y.toInt64.toUInt64 &&& Int64.toUInt64 63)).toInt64 :: r) h
  | _ => False
theorem ok_lushr {l : Launch} {B : zd_B} {y : zd_Y} {pc : Nat} (hd : decode (zd_yb y) pc = .ok (.lushr, 1)) : zd_ok l B y pc (oc_lushr (pc + 1)) := by
  intro K ls st h Q hK q
  unfold oc_lushr at q
  split at q
  · intro p e R s m args below meth c c0 n0 hX hc H locs arr hR hL hA
    exact lv_lushr hX.1 hX.2.1 hd rfl (hK _ _ _ _ q p e R s m args below meth c c0 n0 hX hc H locs arr hR hL hA)
  · exact q.elim
def oc_lshl (nx : Nat) : zd_S := fun K ls st h _ => match st with
  | .int y :: .long x :: r => K nx ls (.long (x <<< (y.toInt64 &&& 63)) :: r) h
  | _ => False
theorem ok_lshl {l : Launch} {B : zd_B} {y : zd_Y} {pc : Nat} (hd : decode (zd_yb y) pc = .ok (.lshl, 1)) : zd_ok l B y pc (oc_lshl (pc + 1)) := by
  intro K ls st h Q hK q
  unfold oc_lshl at q
  split at q
  · intro p e R s m args below meth c c0 n0 hX hc H locs arr hR hL hA
    exact lv_lshl hX.1 hX.2.1 hd rfl (hK _ _ _ _ q p e R s m args below meth c c0 n0 hX hc H locs arr hR hL hA)
  · exact q.elim
def oc_lshr (nx : Nat) : zd_S := fun K ls st h _ => match st with
  | .int y :: .long x :: r => K nx ls (.long (x >>> (y.toInt64 &&& 63)) :: r) h
  | _ => False
theorem ok_lshr {l : Launch} {B : zd_B} {y : zd_Y} {pc : Nat} (hd : decode (zd_yb y) pc = .ok (.lshr, 1)) : zd_ok l B y pc (oc_lshr (pc + 1)) := by
  intro K ls st h Q hK q
  unfold oc_lshr at q
  split at q
  · intro p e R s m args below meth c c0 n0 hX hc H locs arr hR hL hA
    exact lv_lshr hX.1 hX.2.1 hd rfl (hK _ _ _ _ q p e R s m args below meth c c0 n0 hX hc H locs arr hR hL hA)
  · exact q.elim
def oc_i2l (nx : Nat) : zd_S := fun K ls st h _ => match st with
  | .int x :: r => K nx ls (.long x.toInt64 :: r) h
  | _ => False
theorem ok_i2l {l : Launch} {B : zd_B} {y : zd_Y} {pc : Nat} (hd : decode (zd_yb y) pc = .ok (.i2l, 1)) : zd_ok l B y pc (oc_i2l (pc + 1)) := by
  intro K ls st h Q hK q
  unfold oc_i2l at q
  split at q
  · intro p e R s m args below meth c c0 n0 hX hc H locs arr hR hL hA
    exact lv_i2l hX.1 hX.2.1 hd rfl (hK _ _ _ _ q p e R s m args below meth c c0 n0 hX hc H locs arr hR hL hA)
  · exact q.elim
def oc_l2i (nx : Nat) : zd_S := fun K ls st h _ => match st with
  | .long x :: r => K nx ls (.int x.toInt32 :: r) h
  | _ => False
theorem ok_l2i {l : Launch} {B : zd_B} {y : zd_Y} {pc : Nat} (hd : decode (zd_yb y) pc = .ok (.l2i, 1)) : zd_ok l B y pc (oc_l2i (pc + 1)) := by
  intro K ls st h Q hK q
  unfold oc_l2i at q
  split at q
  · intro p e R s m args below meth c c0 n0 hX hc H locs arr hR hL hA
    exact lv_l2i hX.1 hX.2.1 hd rfl (hK _ _ _ _ q p e R s m args below meth c c0 n0 hX hc H locs arr hR hL hA)
  · exact q.elim
def oc_i2c (nx : Nat) : zd_S := fun K ls st h _ => match st with
  | .int x :: r => K nx ls (.int (x.toUInt32 % 65536).toInt32 :: r) h
  | _ => False
theorem ok_i2c {l : Launch} {B : zd_B} {y : zd_Y} {pc : Nat} (hd : decode (zd_yb y) pc = .ok (.i2c, 1)) : zd_ok l B y pc (oc_i2c (pc + 1)) := by
  intro K ls st h Q hK q
  unfold oc_i2c at q
  split at q
  · intro p e R s m args below meth c c0 n0 hX hc H locs arr hR hL hA
    exact lv_i2c hX.1 hX.2.1 hd rfl (hK _ _ _ _ q p e R s m args below meth c c0 n0 hX hc H locs arr hR hL hA)
  · exact q.elim
def oc_lcmp (nx : Nat) : zd_S := fun K ls st h _ => match st with
  | .long y :: .long x :: r => K nx ls (.int (lg_cmp x y) :: r) h
  | _ => False
theorem ok_lcmp {l : Launch} {B : zd_B} {y : zd_Y} {pc : Nat} (hd : decode (zd_yb y) pc = .ok (.lcmp, 1)) : zd_ok l B y pc (oc_lcmp (pc + 1)) := by
  intro K ls st h Q hK q
  unfold oc_lcmp at q
  split at q
  · intro p e R s m args below meth c c0 n0 hX hc H locs arr hR hL hA
    exact W.lcmp hX.1 hX.2.1 hd (hK _ _ _ _ q p e R s m args below meth c c0 n0 hX hc H locs arr hR hL hA)
  · exact q.elim
def oc_dup (nx : Nat) : zd_S := fun K ls st h _ => match st with
  | .int x :: r => K nx ls (.int x :: .int x :: r) h
  | .ref x :: r => K nx ls (.ref x :: .ref x :: r) h
  | _ => False
theorem ok_dup {l : Launch} {B : zd_B} {y : zd_Y} {pc : Nat} (hd : decode (zd_yb y) pc = .ok (.dup, 1)) : zd_ok l B y pc (oc_dup (pc + 1)) := by
  intro K ls st h Q hK q
  unfold oc_dup at q
  split at q
  · intro p e R s m args below meth c c0 n0 hX hc H locs arr hR hL hA
    exact lv_dup hX.1 hX.2.1 hd rfl (hK _ _ _ _ q p e R s m args below meth c c0 n0 hX hc H locs arr hR hL hA)
  · intro p e R s m args below meth c c0 n0 hX hc H locs arr hR hL hA
    exact lv_dup hX.1 hX.2.1 hd rfl (hK _ _ _ _ q p e R s m args below meth c c0 n0 hX hc H locs arr hR hL hA)
  · exact q.elim
def oc_pop (nx : Nat) : zd_S := fun K ls st h _ => match st with
  | .int x :: r => K nx ls r h
  | .ref x :: r => K nx ls r h
  | _ => False
theorem ok_pop {l : Launch} {B : zd_B} {y : zd_Y} {pc : Nat} (hd : decode (zd_yb y) pc = .ok (.pop, 1)) : zd_ok l B y pc (oc_pop (pc + 1)) := by
  intro K ls st h Q hK q
  unfold oc_pop at q
  split at q
  · intro p e R s m args below meth c c0 n0 hX hc H locs arr hR hL hA
    exact lv_pop hX.1 hX.2.1 hd rfl (hK _ _ _ _ q p e R s m args below meth c c0 n0 hX hc H locs arr hR hL hA)
  · intro p e R s m args below meth c c0 n0 hX hc H locs arr hR hL hA
    exact lv_pop hX.1 hX.2.1 hd rfl (hK _ _ _ _ q p e R s m args below meth c c0 n0 hX hc H locs arr hR hL hA)
  · exact q.elim
def oc_dup_x1 (nx : Nat) : zd_S := fun K ls st h _ => match st with
  | .int x :: .ref z :: r => K nx ls (.int x :: .ref z :: .int x :: r) h
  | .int x :: .int z :: r => K nx ls (.int x :: .int z :: .int x :: r) h
  | _ => False
theorem ok_dup_x1 {l : Launch} {B : zd_B} {y : zd_Y} {pc : Nat} (hd : decode (zd_yb y) pc = .ok (.dup_x1, 1)) : zd_ok l B y pc (oc_dup_x1 (pc + 1)) := by
  intro K ls st h Q hK q
  unfold oc_dup_x1 at q
  split at q
  · intro p e R s m args below meth c c0 n0 hX hc H locs arr hR hL hA
    exact lv_dup_x1 hX.1 hX.2.1 hd rfl rfl (hK _ _ _ _ q p e R s m args below meth c c0 n0 hX hc H locs arr hR hL hA)
  · intro p e R s m args below meth c c0 n0 hX hc H locs arr hR hL hA
    exact lv_dup_x1 hX.1 hX.2.1 hd rfl rfl (hK _ _ _ _ q p e R s m args below meth c c0 n0 hX hc H locs arr hR hL hA)
  · exact q.elim
def oc_dup2 (nx : Nat) : zd_S := fun K ls st h _ => match st with
  | .int x :: .ref z :: r => K nx ls (.int x :: .ref z :: .int x :: .ref z :: r) h
  | .int x :: .int z :: r => K nx ls (.int x :: .int z :: .int x :: .int z :: r) h
  | .long x :: r => K nx ls (.long x :: .long x :: r) h
  | _ => False
theorem ok_dup2 {l : Launch} {B : zd_B} {y : zd_Y} {pc : Nat} (hd : decode (zd_yb y) pc = .ok (.dup2, 1)) : zd_ok l B y pc (oc_dup2 (pc + 1)) := by
  intro K ls st h Q hK q
  unfold oc_dup2 at q
  split at q
  · intro p e R s m args below meth c c0 n0 hX hc H locs arr hR hL hA
    exact lv_dup2_11 hX.1 hX.2.1 hd rfl rfl (hK _ _ _ _ q p e R s m args below meth c c0 n0 hX hc H locs arr hR hL hA)
  · intro p e R s m args below meth c c0 n0 hX hc H locs arr hR hL hA
    exact lv_dup2_11 hX.1 hX.2.1 hd rfl rfl (hK _ _ _ _ q p e R s m args below meth c c0 n0 hX hc H locs arr hR hL hA)
  · intro p e R s m args below meth c c0 n0 hX hc H locs arr hR hL hA
    exact lv_dup2_2 hX.1 hX.2.1 hd rfl (hK _ _ _ _ q p e R s m args below meth c c0 n0 hX hc H locs arr hR hL hA)
  · exact q.elim
def oc_ci (v : Int32) (nx : Nat) : zd_S := fun K ls st h _ => K nx ls (.int v :: st) h
def oc_cl (v : Int64) (nx : Nat) : zd_S := fun K ls st h _ => K nx ls (.long v :: st) h
theorem ok_iconst {l : Launch} {B : zd_B} {y : zd_Y} {pc : Nat} {n : Int} {v : Int32} (hd : decode (zd_yb y) pc = .ok (.iconst n, 1)) (hv : Int32.ofInt n = v) : zd_ok l B y pc (oc_ci v (pc + 1)) := by
  intro K ls st h Q hK q
  intro p e R s m args below meth c c0 n0 hX hc H locs arr hR hL hA
  exact lv_iconst hX.1 hX.2.1 hd hv (hK _ _ _ _ q p e R s m args below meth c c0 n0 hX hc H locs arr hR hL hA)
theorem ok_bipush {l : Launch} {B : zd_B} {y : zd_Y} {pc : Nat} {n : Int} {v : Int32} (hd : decode (zd_yb y) pc = .ok (.bipush n, 2)) (hv : (Int8.ofInt n).toInt32 = v) : zd_ok l B y pc (oc_ci v (pc + 2)) := by
  intro K ls st h Q hK q
  intro p e R s m args below meth c c0 n0 hX hc H locs arr hR hL hA
  exact lv_bipush hX.1 hX.2.1 hd hv (hK _ _ _ _ q p e R s m args below meth c c0 n0 hX hc H locs arr hR hL hA)
theorem ok_sipush {l : Launch} {B : zd_B} {y : zd_Y} {pc : Nat} {n : Int} {v : Int32} (hd : decode (zd_yb y) pc = .ok (.sipush n, 3)) (hv : (Int16.ofInt n).toInt32 = v) : zd_ok l B y pc (oc_ci v (pc + 3)) := by
  intro K ls st h Q hK q
  intro p e R s m args below meth c c0 n0 hX hc H locs arr hR hL hA
  exact lv_sipush hX.1 hX.2.1 hd hv (hK _ _ _ _ q p e R s m args below meth c c0 n0 hX hc H locs arr hR hL hA)
theorem ok_lconst {l : Launch} {B : zd_B} {y : zd_Y} {pc : Nat} {n : Fin 2} {v : Int64} (hd : decode (zd_yb y) pc = .ok (.lconst n, 1)) (hv : Int64.ofNat (n : Nat) = v) : zd_ok l B y pc (oc_cl v (pc + 1)) := by
  intro K ls st h Q hK q
  intro p e R s m args below meth c c0 n0 hX hc H locs arr hR hL hA
  exact lv_lconst hX.1 hX.2.1 hd hv (hK _ _ _ _ q p e R s m args below meth c c0 n0 hX hc H locs arr hR hL hA)
def oc_iload (i nx : Nat) : zd_S := fun K ls st h _ => match ls[i]? with
  | some (some (.int x)) => K nx ls (.int x :: st) h
  | _ => False
theorem ok_iload_n {l : Launch} {B : zd_B} {y : zd_Y} {pc i : Nat} {k : Fin 4} (hi : (k : Nat) = i) (hd : decode (zd_yb y) pc = .ok (.iload_n k, 1)) : zd_ok l B y pc (oc_iload i (pc + 1)) := by
  intro K ls st h Q hK q
  unfold oc_iload at q
  split at q
  · rename_i hv
    intro p e R s m args below meth c c0 n0 hX hc H locs arr hR hL hA
    exact lv_iload_n hX.1 hX.2.1 hd hi (hA.2.2 _ _ hv) (hK _ _ _ _ q p e R s m args below meth c c0 n0 hX hc H locs arr hR hL hA)
  · exact q.elim
theorem ok_iload {l : Launch} {B : zd_B} {y : zd_Y} {pc i : Nat} (hd : decode (zd_yb y) pc = .ok (.iload i, 2)) : zd_ok l B y pc (oc_iload i (pc + 2)) := by
  intro K ls st h Q hK q
  unfold oc_iload at q
  split at q
  · rename_i hv
    intro p e R s m args below meth c c0 n0 hX hc H locs arr hR hL hA
    exact lv_iload hX.1 hX.2.1 hd (hA.2.2 _ _ hv) (hK _ _ _ _ q p e R s m args below meth c c0 n0 hX hc H locs arr hR hL hA)
  · exact q.elim
def oc_lload (i nx : Nat) : zd_S := fun K ls st h _ => match ls[i]? with
  | some (some (.long x)) => K nx ls (.long x :: st) h
  | _ => False
theorem ok_lload_n {l : Launch} {B : zd_B} {y : zd_Y} {pc i : Nat} {k : Fin 4} (hi : (k : Nat) = i) (hd : decode (zd_yb y) pc = .ok (.lload_n k, 1)) : zd_ok l B y pc (oc_lload i (pc + 1)) := by
  intro K ls st h Q hK q
  unfold oc_lload at q
  split at q
  · rename_i hv
    intro p e R s m args below meth c c0 n0 hX hc H locs arr hR hL hA
    exact lv_lload_n hX.1 hX.2.1 hd hi (hA.2.2 _ _ hv) (hK _ _ _ _ q p e R s m args below meth c c0 n0 hX hc H locs arr hR hL hA)
  · exact q.elim
theorem ok_lload {l : Launch} {B : zd_B} {y : zd_Y} {pc i : Nat} (hd : decode (zd_yb y) pc = .ok (.lload i, 2)) : zd_ok l B y pc (oc_lload i (pc + 2)) := by
  intro K ls st h Q hK q
  unfold oc_lload at q
  split at q
  · rename_i hv
    intro p e R s m args below meth c c0 n0 hX hc H locs arr hR hL hA
    exact lv_lload hX.1 hX.2.1 hd (hA.2.2 _ _ hv) (hK _ _ _ _ q p e R s m args below meth c c0 n0 hX hc H locs arr hR hL hA)
  · exact q.elim
def oc_aload (i nx : Nat) : zd_S := fun K ls st h _ => match ls[i]? with
  | some (some (.ref x)) => K nx ls (.ref x :: st) h
  | _ => False
theorem ok_aload_n {l : Launch} {B : zd_B} {y : zd_Y} {pc i : Nat} {k : Fin 4} (hi : (k : Nat) = i) (hd : decode (zd_yb y) pc = .ok (.aload_n k, 1)) : zd_ok l B y pc (oc_aload i (pc + 1)) := by
  intro K ls st h Q hK q
  unfold oc_aload at q
  split at q
  · rename_i hv
    intro p e R s m args below meth c c0 n0 hX hc H locs arr hR hL hA
    exact lv_aload_n hX.1 hX.2.1 hd hi (hA.2.2 _ _ hv) (hK _ _ _ _ q p e R s m args below meth c c0 n0 hX hc H locs arr hR hL hA)
  · exact q.elim
theorem ok_aload {l : Launch} {B : zd_B} {y : zd_Y} {pc i : Nat} (hd : decode (zd_yb y) pc = .ok (.aload i, 2)) : zd_ok l B y pc (oc_aload i (pc + 2)) := by
  intro K ls st h Q hK q
  unfold oc_aload at q
  split at q
  · rename_i hv
    intro p e R s m args below meth c c0 n0 hX hc H locs arr hR hL hA
    exact lv_aload hX.1 hX.2.1 hd (hA.2.2 _ _ hv) (hK _ _ _ _ q p e R s m args below meth c c0 n0 hX hc H locs arr hR hL hA)
  · exact q.elim
def oc_istore (i nx : Nat) : zd_S := fun K ls st h _ => match st with
  | .int x :: r => zd_fl (zd_st1 ls i (.int x)) (fun w => K nx w r h)
  | _ => False
theorem ok_istore_n {l : Launch} {B : zd_B} {y : zd_Y} {pc i : Nat} {k : Fin 4} (hi : (k : Nat) = i) (hd : decode (zd_yb y) pc = .ok (.istore_n k, 1)) (hn : i < zd_yl y) : zd_ok l B y pc (oc_istore i (pc + 1)) := by
  intro K ls st h Q hK q
  unfold oc_istore at q
  split at q
  · intro p e R s m args below meth c c0 n0 hX hc H locs arr hR hL hA
    exact lv_istore_n (lv := zd_lp ls) hX.1 hX.2.1 hd hi hA.has hn rfl (fun arr' hl' => hK _ _ _ _ (zd_fl_eq q) p e R s m args below meth c c0 n0 hX hc H locs arr' hR hL (zd_Lh.st1 hl'))
  · exact q.elim
theorem ok_istore {l : Launch} {B : zd_B} {y : zd_Y} {pc i : Nat} (hd : decode (zd_yb y) pc = .ok (.istore i, 2)) (hn : i < zd_yl y) : zd_ok l B y pc (oc_istore i (pc + 2)) := by
  intro K ls st h Q hK q
  unfold oc_istore at q
  split at q
  · intro p e R s m args below meth c c0 n0 hX hc H locs arr hR hL hA
    exact lv_istore (lv := zd_lp ls) hX.1 hX.2.1 hd hA.has hn rfl (fun arr' hl' => hK _ _ _ _ (zd_fl_eq q) p e R s m args below meth c c0 n0 hX hc H locs arr' hR hL (zd_Lh.st1 hl'))
  · exact q.elim
def oc_lstore (i nx : Nat) : zd_S := fun K ls st h _ => match st with
  | .long x :: r => zd_fl (zd_st2 ls i (.long x)) (fun w => K nx w r h)
  | _ => False
theorem ok_lstore_n {l : Launch} {B : zd_B} {y : zd_Y} {pc i : Nat} {k : Fin 4} (hi : (k : Nat) = i) (hd : decode (zd_yb y) pc = .ok (.lstore_n k, 1)) (hn : i + 1 < zd_yl y) : zd_ok l B y pc (oc_lstore i (pc + 1)) := by
  intro K ls st h Q hK q
  unfold oc_lstore at q
  split at q
  · intro p e R s m args below meth c c0 n0 hX hc H locs arr hR hL hA
    exact lv_lstore_n (lv := zd_lp ls) hX.1 hX.2.1 hd hi hA.has hn rfl (fun arr' hl' => hK _ _ _ _ (zd_fl_eq q) p e R s m args below meth c c0 n0 hX hc H locs arr' hR hL (zd_Lh.st2 hl'))
  · exact q.elim
theorem ok_lstore {l : Launch} {B : zd_B} {y : zd_Y} {pc i : Nat} (hd : decode (zd_yb y) pc = .ok (.lstore i, 2)) (hn : i + 1 < zd_yl y) : zd_ok l B y pc (oc_lstore i (pc + 2)) := by
  intro K ls st h Q hK q
  unfold oc_lstore at q
  split at q
  · intro p e R s m args below meth c c0 n0 hX hc H locs arr hR hL hA
    exact lv_lstore (lv := zd_lp ls) hX.1 hX.2.1 hd hA.has hn rfl (fun arr' hl' => hK _ _ _ _ (zd_fl_eq q) p e R s m args below meth c c0 n0 hX hc H locs arr' hR hL (zd_Lh.st2 hl'))
  · exact q.elim
def oc_astore (i nx : Nat) : zd_S := fun K ls st h _ => match st with
  | .ref x :: r => zd_fl (zd_st1 ls i (.ref x)) (fun w => K nx w r h)
  | _ => False
theorem ok_astore_n {l : Launch} {B : zd_B} {y : zd_Y} {pc i : Nat} {k : Fin 4} (hi : (k : Nat) = i) (hd : decode (zd_yb y) pc = .ok (.astore_n k, 1)) (hn : i < zd_yl y) : zd_ok l B y pc (oc_astore i (pc + 1)) := by
  intro K ls st h Q hK q
  unfold oc_astore at q
  split at q
  · intro p e R s m args below meth c c0 n0 hX hc H locs arr hR hL hA
    exact lv_astore_n (lv := zd_lp ls) hX.1 hX.2.1 hd hi hA.has hn rfl (fun arr' hl' => hK _ _ _ _ (zd_fl_eq q) p e R s m args below meth c c0 n0 hX hc H locs arr' hR hL (zd_Lh.st1 hl'))
  · exact q.elim
theorem ok_astore {l : Launch} {B : zd_B} {y : zd_Y} {pc i : Nat} (hd : decode (zd_yb y) pc = .ok (.astore i, 2)) (hn : i < zd_yl y) : zd_ok l B y pc (oc_astore i (pc + 2)) := by
  intro K ls st h Q hK q
  unfold oc_astore at q
  split at q
  · intro p e R s m args below meth c c0 n0 hX hc H locs arr hR hL hA
    exact lv_astore (lv := zd_lp ls) hX.1 hX.2.1 hd hA.has hn rfl (fun arr' hl' => hK _ _ _ _ (zd_fl_eq q) p e R s m args below meth c c0 n0 hX hc H locs arr' hR hL (zd_Lh.st1 hl'))
  · exact q.elim
def oc_iinc (i : Nat) (d : Int32) (nx : Nat) : zd_S := fun K ls st h _ => match ls[i]? with
  | some (some (.int x)) => zd_fl (zd_st1 ls i (.int (x + d))) (fun w => K nx w st h)
  | _ => False
theorem ok_iinc {l : Launch} {B : zd_B} {y : zd_Y} {pc i : Nat} {n : Int} {d : Int32} (hd : decode (zd_yb y) pc = .ok (.iinc i n, 3)) (hn : i < zd_yl y) (hv : Int32.ofInt n = d) : zd_ok l B y pc (oc_iinc i d (pc + 3)) := by
  intro K ls st h Q hK q
  unfold oc_iinc at q
  split at q
  · rename_i x hx
    intro p e R s m args below meth c c0 n0 hX hc H locs arr hR hL hA
    obtain ⟨k, hk⟩ := List.getElem?_of_mem (zd_lp_mem.mpr hx)
    exact lv_iinc (lv := zd_lp ls) hX.1 hX.2.1 hd hA.has hk (by rw [hv]) hn rfl (fun arr' hl' => hK _ _ _ _ (zd_fl_eq q) p e R s m args below meth c c0 n0 hX hc H locs arr' hR hL (zd_Lh.st1 hl'))
  · exact q.elim
def oc_if_eq (tgt nx : Nat) : zd_S := fun K ls st h _ => match st with
  | .int x :: r => (x = 0 → K tgt ls r h) ∧ (¬ x = 0 → K nx ls r h)
  | _ => False
theorem ok_if_eq {l : Launch} {B : zd_B} {y : zd_Y} {pc tgt : Nat} {off : Int} (hd : decode (zd_yb y) pc = .ok (.ifCond .eq off, 3)) (ht : (pc : Int) + off = (tgt : Int)) : zd_ok l B y pc (oc_if_eq tgt (pc + 3)) := by
  intro K ls st h Q hK q
  unfold oc_if_eq at q
  split at q
  · intro p e R s m args below meth c c0 n0 hX hc H locs arr hR hL hA
    exact lv_if_eq hX.1 hX.2.1 hd ht (fun z => hK _ _ _ _ (q.1 z) p e R s m args below meth c c0 n0 hX hc H locs arr hR hL hA) (fun z => hK _ _ _ _ (q.2 z) p e R s m args below meth c c0 n0 hX hc H locs arr hR hL hA)
  · exact q.elim
def oc_icmp_eq (tgt nx : Nat) : zd_S := fun K ls st h _ => match st with
  | .int y :: .int x :: r => (x = y → K tgt ls r h) ∧ (¬ x = y → K nx ls r h)
  | _ => False
theorem ok_icmp_eq {l : Launch} {B : zd_B} {y : zd_Y} {pc tgt : Nat} {off : Int} (hd : decode (zd_yb y) pc = .ok (.if_icmp .eq off, 3)) (ht : (pc : Int) + off = (tgt : Int)) : zd_ok l B y pc (oc_icmp_eq tgt (pc + 3)) := by
  intro K ls st h Q hK q
  unfold oc_icmp_eq at q
  split at q
  · intro p e R s m args below meth c c0 n0 hX hc H locs arr hR hL hA
    exact lv_icmp_eq hX.1 hX.2.1 hd ht (fun z => hK _ _ _ _ (q.1 z) p e R s m args below meth c c0 n0 hX hc H locs arr hR hL hA) (fun z => hK _ _ _ _ (q.2 z) p e R s m args below meth c c0 n0 hX hc H locs arr hR hL hA)
  · exact q.elim
def oc_if_ne (tgt nx : Nat) : zd_S := fun K ls st h _ => match st with
  | .int x :: r => (¬ x = 0 → K tgt ls r h) ∧ (x = 0 → K nx ls r h)
  | _ => False
theorem ok_if_ne {l : Launch} {B : zd_B} {y : zd_Y} {pc tgt : Nat} {off : Int} (hd : decode (zd_yb y) pc = .ok (.ifCond .ne off, 3)) (ht : (pc : Int) + off = (tgt : Int)) : zd_ok l B y pc (oc_if_ne tgt (pc + 3)) := by
  intro K ls st h Q hK q
  unfold oc_if_ne at q
  split at q
  · intro p e R s m args below meth c c0 n0 hX hc H locs arr hR hL hA
    exact lv_if_ne hX.1 hX.2.1 hd ht (fun z => hK _ _ _ _ (q.1 z) p e R s m args below meth c c0 n0 hX hc H locs arr hR hL hA) (fun z => hK _ _ _ _ (q.2 z) p e R s m args below meth c c0 n0 hX hc H locs arr hR hL hA)
  · exact q.elim
def oc_icmp_ne (tgt nx : Nat) : zd_S := fun K ls st h _ => match st with
  | .int y :: .int x :: r => (¬ x = y → K tgt ls r h) ∧ (x = y → K nx ls r h)
  | _ => False
theorem ok_icmp_ne {l : Launch} {B : zd_B} {y : zd_Y} {pc tgt : Nat} {off : Int} (hd : decode (zd_yb y) pc = .ok (.if_icmp .ne off, 3)) (ht : (pc : Int) + off = (tgt : Int)) : zd_ok l B y pc (oc_icmp_ne tgt (pc + 3)) := by
  intro K ls st h Q hK q
  unfold oc_icmp_ne at q
  split at q
  · intro p e R s m args below meth c c0 n0 hX hc H locs arr hR hL hA
    exact lv_icmp_ne hX.1 hX.2.1 hd ht (fun z => hK _ _ _ _ (q.1 z) p e R s m args below meth c c0 n0 hX hc H locs arr hR hL hA) (fun z => hK _ _ _ _ (q.2 z) p e R s m args below meth c c0 n0 hX hc H locs arr hR hL hA)
  · exact q.elim
def oc_if_lt (tgt nx : Nat) : zd_S := fun K ls st h _ => match st with
  | .int x :: r => (x < 0 → K tgt ls r h) ∧ (¬ x < 0 → K nx ls r h)
  | _ => False
theorem ok_if_lt {l : Launch} {B : zd_B} {y : zd_Y} {pc tgt : Nat} {off : Int} (hd : decode (zd_yb y) pc = .ok (.ifCond .lt off, 3)) (ht : (pc : Int) + off = (tgt : Int)) : zd_ok l B y pc (oc_if_lt tgt (pc + 3)) := by
  intro K ls st h Q hK q
  unfold oc_if_lt at q
  split at q
  · intro p e R s m args below meth c c0 n0 hX hc H locs arr hR hL hA
    exact lv_if_lt hX.1 hX.2.1 hd ht (fun z => hK _ _ _ _ (q.1 z) p e R s m args below meth c c0 n0 hX hc H locs arr hR hL hA) (fun z => hK _ _ _ _ (q.2 z) p e R s m args below meth c c0 n0 hX hc H locs arr hR hL hA)
  · exact q.elim
def oc_icmp_lt (tgt nx : Nat) : zd_S := fun K ls st h _ => match st with
  | .int y :: .int x :: r => (x < y → K tgt ls r h) ∧ (¬ x < y → K nx ls r h)
  | _ => False
theorem ok_icmp_lt {l : Launch} {B : zd_B} {y : zd_Y} {pc tgt : Nat} {off : Int} (hd : decode (zd_yb y) pc = .ok (.if_icmp .lt off, 3)) (ht : (pc : Int) + off = (tgt : Int)) : zd_ok l B y pc (oc_icmp_lt tgt (pc + 3)) := by
  intro K ls st h Q hK q
  unfold oc_icmp_lt at q
  split at q
  · intro p e R s m args below meth c c0 n0 hX hc H locs arr hR hL hA
    exact lv_icmp_lt hX.1 hX.2.1 hd ht (fun z => hK _ _ _ _ (q.1 z) p e R s m args below meth c c0 n0 hX hc H locs arr hR hL hA) (fun z => hK _ _ _ _ (q.2 z) p e R s m args below meth c c0 n0 hX hc H locs arr hR hL hA)
  · exact q.elim
def oc_if_ge (tgt nx : Nat) : zd_S := fun K ls st h _ => match st with
  | .int x :: r => (0 ≤ x → K tgt ls r h) ∧ (¬ 0 ≤ x → K nx ls r h)
  | _ => False
theorem ok_if_ge {l : Launch} {B : zd_B} {y : zd_Y} {pc tgt : Nat} {off : Int} (hd : decode (zd_yb y) pc = .ok (.ifCond .ge off, 3)) (ht : (pc : Int) + off = (tgt : Int)) : zd_ok l B y pc (oc_if_ge tgt (pc + 3)) := by
  intro K ls st h Q hK q
  unfold oc_if_ge at q
  split at q
  · intro p e R s m args below meth c c0 n0 hX hc H locs arr hR hL hA
    exact lv_if_ge hX.1 hX.2.1 hd ht (fun z => hK _ _ _ _ (q.1 z) p e R s m args below meth c c0 n0 hX hc H locs arr hR hL hA) (fun z => hK _ _ _ _ (q.2 z) p e R s m args below meth c c0 n0 hX hc H locs arr hR hL hA)
  · exact q.elim
def oc_icmp_ge (tgt nx : Nat) : zd_S := fun K ls st h _ => match st with
  | .int y :: .int x :: r => (y ≤ x → K tgt ls r h) ∧ (¬ y ≤ x → K nx ls r h)
  | _ => False
theorem ok_icmp_ge {l : Launch} {B : zd_B} {y : zd_Y} {pc tgt : Nat} {off : Int} (hd : decode (zd_yb y) pc = .ok (.if_icmp .ge off, 3)) (ht : (pc : Int) + off = (tgt : Int)) : zd_ok l B y pc (oc_icmp_ge tgt (pc + 3)) := by
  intro K ls st h Q hK q
  unfold oc_icmp_ge at q
  split at q
  · intro p e R s m args below meth c c0 n0 hX hc H locs arr hR hL hA
    exact lv_icmp_ge hX.1 hX.2.1 hd ht (fun z => hK _ _ _ _ (q.1 z) p e R s m args below meth c c0 n0 hX hc H locs arr hR hL hA) (fun z => hK _ _ _ _ (q.2 z) p e R s m args below meth c c0 n0 hX hc H locs arr hR hL hA)
  · exact q.elim
def oc_if_gt (tgt nx : Nat) : zd_S := fun K ls st h _ => match st with
  | .int x :: r => (0 < x → K tgt ls r h) ∧ (¬ 0 < x → K nx ls r h)
  | _ => False
theorem ok_if_gt {l : Launch} {B : zd_B} {y : zd_Y} {pc tgt : Nat} {off : Int} (hd : decode (zd_yb y) pc = .ok (.ifCond .gt off, 3)) (ht : (pc : Int) + off = (tgt : Int)) : zd_ok l B y pc (oc_if_gt tgt (pc + 3)) := by
  intro K ls st h Q hK q
  unfold oc_if_gt at q
  split at q
  · intro p e R s m args below meth c c0 n0 hX hc H locs arr hR hL hA
    exact lv_if_gt hX.1 hX.2.1 hd ht (fun z => hK _ _ _ _ (q.1 z) p e R s m args below meth c c0 n0 hX hc H locs arr hR hL hA) (fun z => hK _ _ _ _ (q.2 z) p e R s m args below meth c c0 n0 hX hc H locs arr hR hL hA)
  · exact q.elim
def oc_icmp_gt (tgt nx : Nat) : zd_S := fun K ls st h _ => match st with
  | .int y :: .int x :: r => (y < x → K tgt ls r h) ∧ (¬ y < x → K nx ls r h)
  | _ => False
theorem ok_icmp_gt {l : Launch} {B : zd_B} {y : zd_Y} {pc tgt : Nat} {off : Int} (hd : decode (zd_yb y) pc = .ok (.if_icmp .gt off, 3)) (ht : (pc : Int) + off = (tgt : Int)) : zd_ok l B y pc (oc_icmp_gt tgt (pc + 3)) := by
  intro K ls st h Q hK q
  unfold oc_icmp_gt at q
  split at q
  · intro p e R s m args below meth c c0 n0 hX hc H locs arr hR hL hA
    exact lv_icmp_gt hX.1 hX.2.1 hd ht (fun z => hK _ _ _ _ (q.1 z) p e R s m args below meth c c0 n0 hX hc H locs arr hR hL hA) (fun z => hK _ _ _ _ (q.2 z) p e R s m args below meth c c0 n0 hX hc H locs arr hR hL hA)
  · exact q.elim
def oc_if_le (tgt nx : Nat) : zd_S := fun K ls st h _ => match st with
  | .int x :: r => (x ≤ 0 → K tgt ls r h) ∧ (¬ x ≤ 0 → K nx ls r h)
  | _ => False
theorem ok_if_le {l : Launch} {B : zd_B} {y : zd_Y} {pc tgt : Nat} {off : Int} (hd : decode (zd_yb y) pc = .ok (.ifCond .le off, 3)) (ht : (pc : Int) + off = (tgt : Int)) : zd_ok l B y pc (oc_if_le tgt (pc + 3)) := by
  intro K ls st h Q hK q
  unfold oc_if_le at q
  split at q
  · intro p e R s m args below meth c c0 n0 hX hc H locs arr hR hL hA
    exact lv_if_le hX.1 hX.2.1 hd ht (fun z => hK _ _ _ _ (q.1 z) p e R s m args below meth c c0 n0 hX hc H locs arr hR hL hA) (fun z => hK _ _ _ _ (q.2 z) p e R s m args below meth c c0 n0 hX hc H locs arr hR hL hA)
  · exact q.elim
def oc_icmp_le (tgt nx : Nat) : zd_S := fun K ls st h _ => match st with
  | .int y :: .int x :: r => (x ≤ y → K tgt ls r h) ∧ (¬ x ≤ y → K nx ls r h)
  | _ => False
theorem ok_icmp_le {l : Launch} {B : zd_B} {y : zd_Y} {pc tgt : Nat} {off : Int} (hd : decode (zd_yb y) pc = .ok (.if_icmp .le off, 3)) (ht : (pc : Int) + off = (tgt : Int)) : zd_ok l B y pc (oc_icmp_le tgt (pc + 3)) := by
  intro K ls st h Q hK q
  unfold oc_icmp_le at q
  split at q
  · intro p e R s m args below meth c c0 n0 hX hc H locs arr hR hL hA
    exact lv_icmp_le hX.1 hX.2.1 hd ht (fun z => hK _ _ _ _ (q.1 z) p e R s m args below meth c c0 n0 hX hc H locs arr hR hL hA) (fun z => hK _ _ _ _ (q.2 z) p e R s m args below meth c c0 n0 hX hc H locs arr hR hL hA)
  · exact q.elim
def oc_goto (tgt : Nat) : zd_S := fun K ls st h _ => K tgt ls st h
theorem ok_goto {l : Launch} {B : zd_B} {y : zd_Y} {pc tgt : Nat} {off : Int} (hd : decode (zd_yb y) pc = .ok (.goto off, 3)) (ht : (pc : Int) + off = (tgt : Int)) : zd_ok l B y pc (oc_goto tgt) := by
  intro K ls st h Q hK q
  intro p e R s m args below meth c c0 n0 hX hc H locs arr hR hL hA
  exact lv_goto hX.1 hX.2.1 hd ht (hK _ _ _ _ q p e R s m args below meth c c0 n0 hX hc H locs arr hR hL hA)

theorem zx_Na_28_30_32 : zx_F "DecimalDesk$Natural" 28 30 32 "java/lang/ArithmeticException" "more digits than a register can have" := ⟨(List.mem_of_getElem? (i := 445) (by decide +kernel)), (List.mem_of_getElem? (i := 70) (by decide +kernel)), (List.mem_of_getElem? (i := 446) (by decide +kernel)), (List.mem_of_getElem? (i := 447) (by decide +kernel))⟩
def dl_Ma_abs : List (Nat × Instr × Nat) := [(0, .iload_n 0, 1), (1, .ifCond .ge (8), 3), (4, .iload_n 0, 1), (5, .ineg, 1), (6, .goto (4), 3), (9, .iload_n 0, 1), (10, .ireturn, 1)]
theorem dc_Ma_abs : ∀ q ∈ dl_Ma_abs, decode (zd_yb m_Ma_abs) q.1 = .ok q.2 := by decide +kernel
def cd_Ma_abs (l : Launch) (B : zd_B) : List (Nat × zd_S) := [(0, oc_iload 0 1), (1, oc_if_ge 9 4), (4, oc_iload 0 5), (5, oc_ineg 6), (6, oc_goto 10), (9, oc_iload 0 10), (10, oc_iret .int)]
set_option maxRecDepth 20000 in
theorem ok_Ma_abs {l : Launch} {B : zd_B} (hG : zd_G B) (hl : l.stackTraces = false) : ∀ q ∈ cd_Ma_abs l B, zd_ok l B m_Ma_abs q.1 q.2 := by
  unfold cd_Ma_abs
  refine zd_ac (ok_iload_n (l := l) (B := B) (y := m_Ma_abs) (pc := 0) (k := 0) rfl (zd_dr dc_Ma_abs 0 rfl)) ?_
  refine zd_ac (ok_if_ge (l := l) (B := B) (y := m_Ma_abs) (pc := 1) (zd_dr dc_Ma_abs 1 rfl) (by decide)) ?_
  refine zd_ac (ok_iload_n (l := l) (B := B) (y := m_Ma_abs) (pc := 4) (k := 0) rfl (zd_dr dc_Ma_abs 2 rfl)) ?_
  refine zd_ac (ok_ineg (l := l) (B := B) (y := m_Ma_abs) (pc := 5) (zd_dr dc_Ma_abs 3 rfl)) ?_
  refine zd_ac (ok_goto (l := l) (B := B) (y := m_Ma_abs) (pc := 6) (zd_dr dc_Ma_abs 4 rfl) (by decide)) ?_
  refine zd_ac (ok_iload_n (l := l) (B := B) (y := m_Ma_abs) (pc := 9) (k := 0) rfl (zd_dr dc_Ma_abs 5 rfl)) ?_
  refine zd_ac (ok_iret (l := l) (B := B) (y := m_Ma_abs) (pc := 10) rfl (zd_dr dc_Ma_abs 6 rfl)) ?_
  exact zd_an
def dl_Ma_max : List (Nat × Instr × Nat) := [(0, .iload_n 0, 1), (1, .iload_n 1, 1), (2, .if_icmp .lt (7), 3), (5, .iload_n 0, 1), (6, .goto (4), 3), (9, .iload_n 1, 1), (10, .ireturn, 1)]
theorem dc_Ma_max : ∀ q ∈ dl_Ma_max, decode (zd_yb m_Ma_max) q.1 = .ok q.2 := by decide +kernel
def cd_Ma_max (l : Launch) (B : zd_B) : List (Nat × zd_S) := [(0, oc_iload 0 1), (1, oc_iload 1 2), (2, oc_icmp_lt 9 5), (5, oc_iload 0 6), (6, oc_goto 10), (9, oc_iload 1 10), (10, oc_iret .int)]
set_option maxRecDepth 20000 in
theorem ok_Ma_max {l : Launch} {B : zd_B} (hG : zd_G B) (hl : l.stackTraces = false) : ∀ q ∈ cd_Ma_max l B, zd_ok l B m_Ma_max q.1 q.2 := by
  unfold cd_Ma_max
  refine zd_ac (ok_iload_n (l := l) (B := B) (y := m_Ma_max) (pc := 0) (k := 0) rfl (zd_dr dc_Ma_max 0 rfl)) ?_
  refine zd_ac (ok_iload_n (l := l) (B := B) (y := m_Ma_max) (pc := 1) (k := 1) rfl (zd_dr dc_Ma_max 1 rfl)) ?_
  refine zd_ac (ok_icmp_lt (l := l) (B := B) (y := m_Ma_max) (pc := 2) (zd_dr dc_Ma_max 2 rfl) (by decide)) ?_
  refine zd_ac (ok_iload_n (l := l) (B := B) (y := m_Ma_max) (pc := 5) (k := 0) rfl (zd_dr dc_Ma_max 3 rfl)) ?_
  refine zd_ac (ok_goto (l := l) (B := B) (y := m_Ma_max) (pc := 6) (zd_dr dc_Ma_max 4 rfl) (by decide)) ?_
  refine zd_ac (ok_iload_n (l := l) (B := B) (y := m_Ma_max) (pc := 9) (k := 1) rfl (zd_dr dc_Ma_max 5 rfl)) ?_
  refine zd_ac (ok_iret (l := l) (B := B) (y := m_Ma_max) (pc := 10) rfl (zd_dr dc_Ma_max 6 rfl)) ?_
  exact zd_an
def dl_Na_claim : List (Nat × Instr × Nat) := [(0, .iload_n 1, 1), (1, .aload_n 0, 1), (2, .getfield 9, 3), (5, .arraylength, 1), (6, .if_icmp .le (13), 3), (9, .new 28, 3), (12, .dup, 1), (13, .ldc 30, 2), (15, .invokespecial 32, 3), (18, .athrow, 1), (19, .aload_n 0, 1), (20, .iload_n 1, 1), (21, .putfield 15, 3), (24, .return_, 1)]
theorem dc_Na_claim : ∀ q ∈ dl_Na_claim, decode (zd_yb m_Na_claim) q.1 = .ok q.2 := by decide +kernel
def cd_Na_claim (l : Launch) (B : zd_B) : List (Nat × zd_S) := [(0, oc_iload 1 1), (1, oc_aload 0 2), (2, oc_getf B 4 0 5), (5, oc_arraylength B 6), (6, oc_icmp_le 19 9), (9, oc_throw B 11), (19, oc_aload 0 20), (20, oc_iload 1 21), (21, oc_putf B (zy4 1) 4 1 24), (24, oc_vret)]
set_option maxRecDepth 20000 in
theorem ok_Na_claim {l : Launch} {B : zd_B} (hG : zd_G B) (hl : l.stackTraces = false) : ∀ q ∈ cd_Na_claim l B, zd_ok l B m_Na_claim q.1 q.2 := by
  unfold cd_Na_claim
  refine zd_ac (ok_iload_n (l := l) (B := B) (y := m_Na_claim) (pc := 0) (k := 1) rfl (zd_dr dc_Na_claim 0 rfl)) ?_
  refine zd_ac (ok_aload_n (l := l) (B := B) (y := m_Na_claim) (pc := 1) (k := 0) rfl (zd_dr dc_Na_claim 1 rfl)) ?_
  refine zd_ac (ok_getf (l := l) (B := B) (y := m_Na_claim) (pc := 2) hG (C := zR4) (T := zT4) (N := 2) (ci := 4) (k := 0) rfl zl4 (by decide) (List.mem_of_getElem? (i := 96) (by decide +kernel)) (zd_dr dc_Na_claim 2 rfl)) ?_
  refine zd_ac (ok_arraylength (l := l) (B := B) (y := m_Na_claim) (pc := 5) hG (zd_dr dc_Na_claim 3 rfl)) ?_
  refine zd_ac (ok_icmp_le (l := l) (B := B) (y := m_Na_claim) (pc := 6) (zd_dr dc_Na_claim 4 rfl) (by decide)) ?_
  refine zd_ac (ok_throw (l := l) (B := B) (y := m_Na_claim) (pc := 9) hG hl zE11 zx_Na_28_30_32 rfl (by decide) (by decide) (zd_dr dc_Na_claim 5 rfl) (zd_dr dc_Na_claim 6 rfl) (zd_dr dc_Na_claim 7 rfl) (zd_dr dc_Na_claim 8 rfl) (zd_dr dc_Na_claim 9 rfl)) ?_
  refine zd_ac (ok_aload_n (l := l) (B := B) (y := m_Na_claim) (pc := 19) (k := 0) rfl (zd_dr dc_Na_claim 10 rfl)) ?_
  refine zd_ac (ok_iload_n (l := l) (B := B) (y := m_Na_claim) (pc := 20) (k := 1) rfl (zd_dr dc_Na_claim 11 rfl)) ?_
  refine zd_ac (ok_putf (l := l) (B := B) (y := m_Na_claim) (pc := 21) hG (C := zR4) (T := zT4) (N := 2) (ci := 4) (k := 1) rfl zl4 zt4 (by decide) (List.mem_of_getElem? (i := 98) (by decide +kernel)) rfl (zd_dr dc_Na_claim 12 rfl)) ?_
  refine zd_ac (ok_vret (l := l) (B := B) (y := m_Na_claim) (pc := 24) rfl (zd_dr dc_Na_claim 13 rfl)) ?_
  exact zd_an

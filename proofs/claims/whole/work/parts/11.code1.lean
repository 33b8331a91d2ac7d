/-! written by gencode.py: code of Math, Integer, Natural -/
theorem zx_Na_28_30_32 : zx_F "DecimalDesk$Natural" 28 30 32 "java/lang/ArithmeticException" "more digits than a register can have" := ⟨(List.mem_of_getElem? (i := 445) (by decide +kernel)), (List.mem_of_getElem? (i := 70) (by decide +kernel)), (List.mem_of_getElem? (i := 446) (by decide +kernel)), (List.mem_of_getElem? (i := 447) (by decide +kernel))⟩
theorem cf_Na_become_Na_claim : zd_cf m_Na_become m_Na_claim 1 := ⟨(List.mem_of_getElem? (i := 444) (by decide +kernel)), by decide +kernel, by decide, by decide, ⟨by decide, by decide⟩, by decide +kernel⟩
theorem cf_Na_become_Na_trim : zd_cf m_Na_become m_Na_trim 0 := ⟨(List.mem_of_getElem? (i := 457) (by decide +kernel)), by decide +kernel, by decide, by decide, ⟨by decide, by decide⟩, by decide +kernel⟩
theorem cf_Na_becomeProduct_Na_claim : zd_cf m_Na_becomeProduct m_Na_claim 1 := ⟨(List.mem_of_getElem? (i := 444) (by decide +kernel)), by decide +kernel, by decide, by decide, ⟨by decide, by decide⟩, by decide +kernel⟩
theorem cf_Na_becomeProduct_Na_trim : zd_cf m_Na_becomeProduct m_Na_trim 0 := ⟨(List.mem_of_getElem? (i := 457) (by decide +kernel)), by decide +kernel, by decide, by decide, ⟨by decide, by decide⟩, by decide +kernel⟩
theorem cf_Na_copy_Na_claim : zd_cf m_Na_copy m_Na_claim 1 := ⟨(List.mem_of_getElem? (i := 444) (by decide +kernel)), by decide +kernel, by decide, by decide, ⟨by decide, by decide⟩, by decide +kernel⟩
theorem cf_Na_increment_Na_claim : zd_cf m_Na_increment m_Na_claim 1 := ⟨(List.mem_of_getElem? (i := 444) (by decide +kernel)), by decide +kernel, by decide, by decide, ⟨by decide, by decide⟩, by decide +kernel⟩
theorem cf_Na_lowerBy_Na_trim : zd_cf m_Na_lowerBy m_Na_trim 0 := ⟨(List.mem_of_getElem? (i := 457) (by decide +kernel)), by decide +kernel, by decide, by decide, ⟨by decide, by decide⟩, by decide +kernel⟩
theorem cf_Na_move_Na_moveDown : zd_cf m_Na_move m_Na_moveDown 1 := ⟨(List.mem_of_getElem? (i := 543) (by decide +kernel)), by decide +kernel, by decide, by decide, ⟨by decide, by decide⟩, by decide +kernel⟩
theorem cf_Na_move_Na_moveUp : zd_cf m_Na_move m_Na_moveUp 1 := ⟨(List.mem_of_getElem? (i := 548) (by decide +kernel)), by decide +kernel, by decide, by decide, ⟨by decide, by decide⟩, by decide +kernel⟩
theorem cf_Na_moveDown_Na_trim : zd_cf m_Na_moveDown m_Na_trim 0 := ⟨(List.mem_of_getElem? (i := 457) (by decide +kernel)), by decide +kernel, by decide, by decide, ⟨by decide, by decide⟩, by decide +kernel⟩
theorem cf_Na_moveUp_Na_claim : zd_cf m_Na_moveUp m_Na_claim 1 := ⟨(List.mem_of_getElem? (i := 444) (by decide +kernel)), by decide +kernel, by decide, by decide, ⟨by decide, by decide⟩, by decide +kernel⟩
theorem cf_Na_moveUp_Na_digits : zd_cf m_Na_moveUp m_Na_digits 0 := ⟨(List.mem_of_getElem? (i := 476) (by decide +kernel)), by decide +kernel, by decide, by decide, ⟨by decide, by decide⟩, by decide +kernel⟩
theorem cf_Na_openDigits_Na_claim : zd_cf m_Na_openDigits m_Na_claim 1 := ⟨(List.mem_of_getElem? (i := 444) (by decide +kernel)), by decide +kernel, by decide, by decide, ⟨by decide, by decide⟩, by decide +kernel⟩
theorem cf_Na_order_In_compare : zd_cf m_Na_order m_In_compare 2 := ⟨(List.mem_of_getElem? (i := 567) (by decide +kernel)), by decide +kernel, by decide, by decide, ⟨by decide, by decide⟩, by decide +kernel⟩
theorem cf_Na_overSmall_Na_trim : zd_cf m_Na_overSmall m_Na_trim 0 := ⟨(List.mem_of_getElem? (i := 457) (by decide +kernel)), by decide +kernel, by decide, by decide, ⟨by decide, by decide⟩, by decide +kernel⟩
theorem cf_Na_raiseBy_Ma_max : zd_cf m_Na_raiseBy m_Ma_max 2 := ⟨(List.mem_of_getElem? (i := 525) (by decide +kernel)), by decide +kernel, by decide, by decide, ⟨by decide, by decide⟩, by decide +kernel⟩
theorem cf_Na_raiseBy_Na_claim : zd_cf m_Na_raiseBy m_Na_claim 1 := ⟨(List.mem_of_getElem? (i := 444) (by decide +kernel)), by decide +kernel, by decide, by decide, ⟨by decide, by decide⟩, by decide +kernel⟩
theorem cf_Na_raiseBy_Na_trim : zd_cf m_Na_raiseBy m_Na_trim 0 := ⟨(List.mem_of_getElem? (i := 457) (by decide +kernel)), by decide +kernel, by decide, by decide, ⟨by decide, by decide⟩, by decide +kernel⟩
theorem cf_Na_timesSmall_Na_claim : zd_cf m_Na_timesSmall m_Na_claim 1 := ⟨(List.mem_of_getElem? (i := 444) (by decide +kernel)), by decide +kernel, by decide, by decide, ⟨by decide, by decide⟩, by decide +kernel⟩
def dl_Ma_abs : List (Nat × Instr × Nat) := [(0, .iload_n 0, 1), (1, .ifCond .ge (8), 3), (4, .iload_n 0, 1), (5, .ineg, 1), (6, .goto (4), 3), (9, .iload_n 0, 1), (10, .ireturn, 1)]
theorem dc_Ma_abs : ∀ q ∈ dl_Ma_abs, decode (zd_yb m_Ma_abs) q.1 = .ok q.2 := by decide +kernel
def cd_Ma_abs (l : Launch) (B : zd_B) : List (Nat × zd_S) := [(0, oc_iload 0 1), (1, oc_if_ge 9 4), (4, oc_iload 0 5), (5, oc_ineg 6), (6, oc_goto 10), (9, oc_iload 0 10), (10, oc_iret .int)]
set_option maxRecDepth 20000 in
theorem ok_Ma_abs {l : Launch} {B : zd_B} (hG : zd_G B) (hl : l.stackTraces = false) : ∀ q ∈ cd_Ma_abs l B, zd_ok l B m_Ma_abs q.1 q.2 := by
  unfold cd_Ma_abs
  refine zd_ac (ok_iload_n (l := l) (B := B) (y := m_Ma_abs) (pc := 0) (k := 0) rfl (zd_dr dc_Ma_abs 0 rfl)) ?_
  refine zd_ac (ok_if_ge (l := l) (B := B) (y := m_Ma_abs) (pc := 1) (zd_dr dc_Ma_abs 1 rfl) (by decide)) ?_
  refine zd_ac (ok_iload_n (l := l) (B := B) (y := m_Ma_abs) (pc := 4) (k := 0) rfl (zd_dr dc_Ma_abs 2 rfl)) ?_
  refine zd_ac (ok_ineg (l := l) (B := B) (y := m_Ma_abs) (pc := 5) (zd_dr dc_Ma_abs 3 rfl)) ?_
  refine zd_ac (ok_goto (l := l) (B := B) (y := m_Ma_abs) (pc := 6) (zd_dr dc_Ma_abs 4 rfl) (by decide)) ?_
  refine zd_ac (ok_iload_n (l := l) (B := B) (y := m_Ma_abs) (pc := 9) (k := 0) rfl (zd_dr dc_Ma_abs 5 rfl)) ?_
  refine zd_ac (ok_iret (l := l) (B := B) (y := m_Ma_abs) (pc := 10) rfl (zd_dr dc_Ma_abs 6 rfl)) ?_
  exact zd_an
def dl_Ma_floorDiv : List (Nat × Instr × Nat) := [(0, .iload_n 0, 1), (1, .iload_n 1, 1), (2, .idiv, 1), (3, .istore_n 2, 1), (4, .iload_n 0, 1), (5, .iload_n 1, 1), (6, .ixor, 1), (7, .ifCond .ge (14), 3), (10, .iload_n 2, 1), (11, .iload_n 1, 1), (12, .imul, 1), (13, .iload_n 0, 1), (14, .if_icmp .eq (7), 3), (17, .iload_n 2, 1), (18, .iconst (1), 1), (19, .isub, 1), (20, .ireturn, 1), (21, .iload_n 2, 1), (22, .ireturn, 1)]
theorem dc_Ma_floorDiv : ∀ q ∈ dl_Ma_floorDiv, decode (zd_yb m_Ma_floorDiv) q.1 = .ok q.2 := by decide +kernel
def cd_Ma_floorDiv (l : Launch) (B : zd_B) : List (Nat × zd_S) := [(0, oc_iload 0 1), (1, oc_iload 1 2), (2, oc_idiv 3), (3, oc_istore 2 4), (4, oc_iload 0 5), (5, oc_iload 1 6), (6, oc_ixor 7), (7, oc_if_ge 21 10), (10, oc_iload 2 11), (11, oc_iload 1 12), (12, oc_imul 13), (13, oc_iload 0 14), (14, oc_icmp_eq 21 17), (17, oc_iload 2 18), (18, oc_ci (1) 19), (19, oc_isub 20), (20, oc_iret .int), (21, oc_iload 2 22), (22, oc_iret .int)]
set_option maxRecDepth 20000 in
theorem ok_Ma_floorDiv {l : Launch} {B : zd_B} (hG : zd_G B) (hl : l.stackTraces = false) : ∀ q ∈ cd_Ma_floorDiv l B, zd_ok l B m_Ma_floorDiv q.1 q.2 := by
  unfold cd_Ma_floorDiv
  refine zd_ac (ok_iload_n (l := l) (B := B) (y := m_Ma_floorDiv) (pc := 0) (k := 0) rfl (zd_dr dc_Ma_floorDiv 0 rfl)) ?_
  refine zd_ac (ok_iload_n (l := l) (B := B) (y := m_Ma_floorDiv) (pc := 1) (k := 1) rfl (zd_dr dc_Ma_floorDiv 1 rfl)) ?_
  refine zd_ac (ok_idiv (l := l) (B := B) (y := m_Ma_floorDiv) (pc := 2) (zd_dr dc_Ma_floorDiv 2 rfl)) ?_
  refine zd_ac (ok_istore_n (l := l) (B := B) (y := m_Ma_floorDiv) (pc := 3) (k := 2) rfl (zd_dr dc_Ma_floorDiv 3 rfl) (by decide)) ?_
  refine zd_ac (ok_iload_n (l := l) (B := B) (y := m_Ma_floorDiv) (pc := 4) (k := 0) rfl (zd_dr dc_Ma_floorDiv 4 rfl)) ?_
  refine zd_ac (ok_iload_n (l := l) (B := B) (y := m_Ma_floorDiv) (pc := 5) (k := 1) rfl (zd_dr dc_Ma_floorDiv 5 rfl)) ?_
  refine zd_ac (ok_ixor (l := l) (B := B) (y := m_Ma_floorDiv) (pc := 6) (zd_dr dc_Ma_floorDiv 6 rfl)) ?_
  refine zd_ac (ok_if_ge (l := l) (B := B) (y := m_Ma_floorDiv) (pc := 7) (zd_dr dc_Ma_floorDiv 7 rfl) (by decide)) ?_
  refine zd_ac (ok_iload_n (l := l) (B := B) (y := m_Ma_floorDiv) (pc := 10) (k := 2) rfl (zd_dr dc_Ma_floorDiv 8 rfl)) ?_
  refine zd_ac (ok_iload_n (l := l) (B := B) (y := m_Ma_floorDiv) (pc := 11) (k := 1) rfl (zd_dr dc_Ma_floorDiv 9 rfl)) ?_
  refine zd_ac (ok_imul (l := l) (B := B) (y := m_Ma_floorDiv) (pc := 12) (zd_dr dc_Ma_floorDiv 10 rfl)) ?_
  refine zd_ac (ok_iload_n (l := l) (B := B) (y := m_Ma_floorDiv) (pc := 13) (k := 0) rfl (zd_dr dc_Ma_floorDiv 11 rfl)) ?_
  refine zd_ac (ok_icmp_eq (l := l) (B := B) (y := m_Ma_floorDiv) (pc := 14) (zd_dr dc_Ma_floorDiv 12 rfl) (by decide)) ?_
  refine zd_ac (ok_iload_n (l := l) (B := B) (y := m_Ma_floorDiv) (pc := 17) (k := 2) rfl (zd_dr dc_Ma_floorDiv 13 rfl)) ?_
  refine zd_ac (ok_iconst (l := l) (B := B) (y := m_Ma_floorDiv) (pc := 18) (n := (1)) (zd_dr dc_Ma_floorDiv 14 rfl) rfl) ?_
  refine zd_ac (ok_isub (l := l) (B := B) (y := m_Ma_floorDiv) (pc := 19) (zd_dr dc_Ma_floorDiv 15 rfl)) ?_
  refine zd_ac (ok_iret (l := l) (B := B) (y := m_Ma_floorDiv) (pc := 20) rfl (zd_dr dc_Ma_floorDiv 16 rfl)) ?_
  refine zd_ac (ok_iload_n (l := l) (B := B) (y := m_Ma_floorDiv) (pc := 21) (k := 2) rfl (zd_dr dc_Ma_floorDiv 17 rfl)) ?_
  refine zd_ac (ok_iret (l := l) (B := B) (y := m_Ma_floorDiv) (pc := 22) rfl (zd_dr dc_Ma_floorDiv 18 rfl)) ?_
  exact zd_an
def dl_Ma_floorMod : List (Nat × Instr × Nat) := [(0, .iload_n 0, 1), (1, .iload_n 1, 1), (2, .irem, 1), (3, .istore_n 2, 1), (4, .iload_n 0, 1), (5, .iload_n 1, 1), (6, .ixor, 1), (7, .ifCond .ge (11), 3), (10, .iload_n 2, 1), (11, .ifCond .eq (7), 3), (14, .iload_n 2, 1), (15, .iload_n 1, 1), (16, .iadd, 1), (17, .ireturn, 1), (18, .iload_n 2, 1), (19, .ireturn, 1)]
theorem dc_Ma_floorMod : ∀ q ∈ dl_Ma_floorMod, decode (zd_yb m_Ma_floorMod) q.1 = .ok q.2 := by decide +kernel
def cd_Ma_floorMod (l : Launch) (B : zd_B) : List (Nat × zd_S) := [(0, oc_iload 0 1), (1, oc_iload 1 2), (2, oc_irem 3), (3, oc_istore 2 4), (4, oc_iload 0 5), (5, oc_iload 1 6), (6, oc_ixor 7), (7, oc_if_ge 18 10), (10, oc_iload 2 11), (11, oc_if_eq 18 14), (14, oc_iload 2 15), (15, oc_iload 1 16), (16, oc_iadd 17), (17, oc_iret .int), (18, oc_iload 2 19), (19, oc_iret .int)]
set_option maxRecDepth 20000 in
theorem ok_Ma_floorMod {l : Launch} {B : zd_B} (hG : zd_G B) (hl : l.stackTraces = false) : ∀ q ∈ cd_Ma_floorMod l B, zd_ok l B m_Ma_floorMod q.1 q.2 := by
  unfold cd_Ma_floorMod
  refine zd_ac (ok_iload_n (l := l) (B := B) (y := m_Ma_floorMod) (pc := 0) (k := 0) rfl (zd_dr dc_Ma_floorMod 0 rfl)) ?_
  refine zd_ac (ok_iload_n (l := l) (B := B) (y := m_Ma_floorMod) (pc := 1) (k := 1) rfl (zd_dr dc_Ma_floorMod 1 rfl)) ?_
  refine zd_ac (ok_irem (l := l) (B := B) (y := m_Ma_floorMod) (pc := 2) (zd_dr dc_Ma_floorMod 2 rfl)) ?_
  refine zd_ac (ok_istore_n (l := l) (B := B) (y := m_Ma_floorMod) (pc := 3) (k := 2) rfl (zd_dr dc_Ma_floorMod 3 rfl) (by decide)) ?_
  refine zd_ac (ok_iload_n (l := l) (B := B) (y := m_Ma_floorMod) (pc := 4) (k := 0) rfl (zd_dr dc_Ma_floorMod 4 rfl)) ?_
  refine zd_ac (ok_iload_n (l := l) (B := B) (y := m_Ma_floorMod) (pc := 5) (k := 1) rfl (zd_dr dc_Ma_floorMod 5 rfl)) ?_
  refine zd_ac (ok_ixor (l := l) (B := B) (y := m_Ma_floorMod) (pc := 6) (zd_dr dc_Ma_floorMod 6 rfl)) ?_
  refine zd_ac (ok_if_ge (l := l) (B := B) (y := m_Ma_floorMod) (pc := 7) (zd_dr dc_Ma_floorMod 7 rfl) (by decide)) ?_
  refine zd_ac (ok_iload_n (l := l) (B := B) (y := m_Ma_floorMod) (pc := 10) (k := 2) rfl (zd_dr dc_Ma_floorMod 8 rfl)) ?_
  refine zd_ac (ok_if_eq (l := l) (B := B) (y := m_Ma_floorMod) (pc := 11) (zd_dr dc_Ma_floorMod 9 rfl) (by decide)) ?_
  refine zd_ac (ok_iload_n (l := l) (B := B) (y := m_Ma_floorMod) (pc := 14) (k := 2) rfl (zd_dr dc_Ma_floorMod 10 rfl)) ?_
  refine zd_ac (ok_iload_n (l := l) (B := B) (y := m_Ma_floorMod) (pc := 15) (k := 1) rfl (zd_dr dc_Ma_floorMod 11 rfl)) ?_
  refine zd_ac (ok_iadd (l := l) (B := B) (y := m_Ma_floorMod) (pc := 16) (zd_dr dc_Ma_floorMod 12 rfl)) ?_
  refine zd_ac (ok_iret (l := l) (B := B) (y := m_Ma_floorMod) (pc := 17) rfl (zd_dr dc_Ma_floorMod 13 rfl)) ?_
  refine zd_ac (ok_iload_n (l := l) (B := B) (y := m_Ma_floorMod) (pc := 18) (k := 2) rfl (zd_dr dc_Ma_floorMod 14 rfl)) ?_
  refine zd_ac (ok_iret (l := l) (B := B) (y := m_Ma_floorMod) (pc := 19) rfl (zd_dr dc_Ma_floorMod 15 rfl)) ?_
  exact zd_an
def dl_Ma_max : List (Nat × Instr × Nat) := [(0, .iload_n 0, 1), (1, .iload_n 1, 1), (2, .if_icmp .lt (7), 3), (5, .iload_n 0, 1), (6, .goto (4), 3), (9, .iload_n 1, 1), (10, .ireturn, 1)]
theorem dc_Ma_max : ∀ q ∈ dl_Ma_max, decode (zd_yb m_Ma_max) q.1 = .ok q.2 := by decide +kernel
def cd_Ma_max (l : Launch) (B : zd_B) : List (Nat × zd_S) := [(0, oc_iload 0 1), (1, oc_iload 1 2), (2, oc_icmp_lt 9 5), (5, oc_iload 0 6), (6, oc_goto 10), (9, oc_iload 1 10), (10, oc_iret .int)]
set_option maxRecDepth 20000 in
theorem ok_Ma_max {l : Launch} {B : zd_B} (hG : zd_G B) (hl : l.stackTraces = false) : ∀ q ∈ cd_Ma_max l B, zd_ok l B m_Ma_max q.1 q.2 := by
  unfold cd_Ma_max
  refine zd_ac (ok_iload_n (l := l) (B := B) (y := m_Ma_max) (pc := 0) (k := 0) rfl (zd_dr dc_Ma_max 0 rfl)) ?_
  refine zd_ac (ok_iload_n (l := l) (B := B) (y := m_Ma_max) (pc := 1) (k := 1) rfl (zd_dr dc_Ma_max 1 rfl)) ?_
  refine zd_ac (ok_icmp_lt (l := l) (B := B) (y := m_Ma_max) (pc := 2) (zd_dr dc_Ma_max 2 rfl) (by decide)) ?_
  refine zd_ac (ok_iload_n (l := l) (B := B) (y := m_Ma_max) (pc := 5) (k := 0) rfl (zd_dr dc_Ma_max 3 rfl)) ?_
  refine zd_ac (ok_goto (l := l) (B := B) (y := m_Ma_max) (pc := 6) (zd_dr dc_Ma_max 4 rfl) (by decide)) ?_
  refine zd_ac (ok_iload_n (l := l) (B := B) (y := m_Ma_max) (pc := 9) (k := 1) rfl (zd_dr dc_Ma_max 5 rfl)) ?_
  refine zd_ac (ok_iret (l := l) (B := B) (y := m_Ma_max) (pc := 10) rfl (zd_dr dc_Ma_max 6 rfl)) ?_
  exact zd_an
def dl_Ma_min : List (Nat × Instr × Nat) := [(0, .iload_n 0, 1), (1, .iload_n 1, 1), (2, .if_icmp .gt (7), 3), (5, .iload_n 0, 1), (6, .goto (4), 3), (9, .iload_n 1, 1), (10, .ireturn, 1)]
theorem dc_Ma_min : ∀ q ∈ dl_Ma_min, decode (zd_yb m_Ma_min) q.1 = .ok q.2 := by decide +kernel
def cd_Ma_min (l : Launch) (B : zd_B) : List (Nat × zd_S) := [(0, oc_iload 0 1), (1, oc_iload 1 2), (2, oc_icmp_gt 9 5), (5, oc_iload 0 6), (6, oc_goto 10), (9, oc_iload 1 10), (10, oc_iret .int)]
set_option maxRecDepth 20000 in
theorem ok_Ma_min {l : Launch} {B : zd_B} (hG : zd_G B) (hl : l.stackTraces = false) : ∀ q ∈ cd_Ma_min l B, zd_ok l B m_Ma_min q.1 q.2 := by
  unfold cd_Ma_min
  refine zd_ac (ok_iload_n (l := l) (B := B) (y := m_Ma_min) (pc := 0) (k := 0) rfl (zd_dr dc_Ma_min 0 rfl)) ?_
  refine zd_ac (ok_iload_n (l := l) (B := B) (y := m_Ma_min) (pc := 1) (k := 1) rfl (zd_dr dc_Ma_min 1 rfl)) ?_
  refine zd_ac (ok_icmp_gt (l := l) (B := B) (y := m_Ma_min) (pc := 2) (zd_dr dc_Ma_min 2 rfl) (by decide)) ?_
  refine zd_ac (ok_iload_n (l := l) (B := B) (y := m_Ma_min) (pc := 5) (k := 0) rfl (zd_dr dc_Ma_min 3 rfl)) ?_
  refine zd_ac (ok_goto (l := l) (B := B) (y := m_Ma_min) (pc := 6) (zd_dr dc_Ma_min 4 rfl) (by decide)) ?_
  refine zd_ac (ok_iload_n (l := l) (B := B) (y := m_Ma_min) (pc := 9) (k := 1) rfl (zd_dr dc_Ma_min 5 rfl)) ?_
  refine zd_ac (ok_iret (l := l) (B := B) (y := m_Ma_min) (pc := 10) rfl (zd_dr dc_Ma_min 6 rfl)) ?_
  exact zd_an
def dl_In_compare : List (Nat × Instr × Nat) := [(0, .iload_n 0, 1), (1, .iload_n 1, 1), (2, .if_icmp .ge (7), 3), (5, .iconst (-1), 1), (6, .goto (13), 3), (9, .iload_n 0, 1), (10, .iload_n 1, 1), (11, .if_icmp .ne (7), 3), (14, .iconst (0), 1), (15, .goto (4), 3), (18, .iconst (1), 1), (19, .ireturn, 1)]
theorem dc_In_compare : ∀ q ∈ dl_In_compare, decode (zd_yb m_In_compare) q.1 = .ok q.2 := by decide +kernel
def cd_In_compare (l : Launch) (B : zd_B) : List (Nat × zd_S) := [(0, oc_iload 0 1), (1, oc_iload 1 2), (2, oc_icmp_ge 9 5), (5, oc_ci (-1) 6), (6, oc_goto 19), (9, oc_iload 0 10), (10, oc_iload 1 11), (11, oc_icmp_ne 18 14), (14, oc_ci (0) 15), (15, oc_goto 19), (18, oc_ci (1) 19), (19, oc_iret .int)]
set_option maxRecDepth 20000 in
theorem ok_In_compare {l : Launch} {B : zd_B} (hG : zd_G B) (hl : l.stackTraces = false) : ∀ q ∈ cd_In_compare l B, zd_ok l B m_In_compare q.1 q.2 := by
  unfold cd_In_compare
  refine zd_ac (ok_iload_n (l := l) (B := B) (y := m_In_compare) (pc := 0) (k := 0) rfl (zd_dr dc_In_compare 0 rfl)) ?_
  refine zd_ac (ok_iload_n (l := l) (B := B) (y := m_In_compare) (pc := 1) (k := 1) rfl (zd_dr dc_In_compare 1 rfl)) ?_
  refine zd_ac (ok_icmp_ge (l := l) (B := B) (y := m_In_compare) (pc := 2) (zd_dr dc_In_compare 2 rfl) (by decide)) ?_
  refine zd_ac (ok_iconst (l := l) (B := B) (y := m_In_compare) (pc := 5) (n := (-1)) (zd_dr dc_In_compare 3 rfl) rfl) ?_
  refine zd_ac (ok_goto (l := l) (B := B) (y := m_In_compare) (pc := 6) (zd_dr dc_In_compare 4 rfl) (by decide)) ?_
  refine zd_ac (ok_iload_n (l := l) (B := B) (y := m_In_compare) (pc := 9) (k := 0) rfl (zd_dr dc_In_compare 5 rfl)) ?_
  refine zd_ac (ok_iload_n (l := l) (B := B) (y := m_In_compare) (pc := 10) (k := 1) rfl (zd_dr dc_In_compare 6 rfl)) ?_
  refine zd_ac (ok_icmp_ne (l := l) (B := B) (y := m_In_compare) (pc := 11) (zd_dr dc_In_compare 7 rfl) (by decide)) ?_
  refine zd_ac (ok_iconst (l := l) (B := B) (y := m_In_compare) (pc := 14) (n := (0)) (zd_dr dc_In_compare 8 rfl) rfl) ?_
  refine zd_ac (ok_goto (l := l) (B := B) (y := m_In_compare) (pc := 15) (zd_dr dc_In_compare 9 rfl) (by decide)) ?_
  refine zd_ac (ok_iconst (l := l) (B := B) (y := m_In_compare) (pc := 18) (n := (1)) (zd_dr dc_In_compare 10 rfl) rfl) ?_
  refine zd_ac (ok_iret (l := l) (B := B) (y := m_In_compare) (pc := 19) rfl (zd_dr dc_In_compare 11 rfl)) ?_
  exact zd_an
def dl_Na_init : List (Nat × Instr × Nat) := [(0, .aload_n 0, 1), (1, .invokespecial 3, 3), (4, .aload_n 0, 1), (5, .iload_n 1, 1), (6, .newarray .int, 2), (8, .putfield 9, 3), (11, .return_, 1)]
theorem dc_Na_init : ∀ q ∈ dl_Na_init, decode (zd_yb m_Na_init) q.1 = .ok q.2 := by decide +kernel
def cd_Na_init (l : Launch) (B : zd_B) : List (Nat × zd_S) := [(0, oc_aload 0 1), (1, oc_oinit 4), (4, oc_aload 0 5), (5, oc_iload 1 6), (6, oc_newa B 0 8), (8, oc_putf B (zy4 0) 4 0 11), (11, oc_vret)]
set_option maxRecDepth 20000 in
theorem ok_Na_init {l : Launch} {B : zd_B} (hG : zd_G B) (hl : l.stackTraces = false) : ∀ q ∈ cd_Na_init l B, zd_ok l B m_Na_init q.1 q.2 := by
  unfold cd_Na_init
  refine zd_ac (ok_aload_n (l := l) (B := B) (y := m_Na_init) (pc := 0) (k := 0) rfl (zd_dr dc_Na_init 0 rfl)) ?_
  refine zd_ac (ok_oinit (l := l) (B := B) (y := m_Na_init) (pc := 1) hG (List.mem_of_getElem? (i := 95) (by decide +kernel)) (List.mem_of_getElem? (i := 81) (by decide +kernel)) (List.mem_of_getElem? (i := 82) (by decide +kernel)) (by decide) (by decide) (zd_dr dc_Na_init 1 rfl)) ?_
  refine zd_ac (ok_aload_n (l := l) (B := B) (y := m_Na_init) (pc := 4) (k := 0) rfl (zd_dr dc_Na_init 2 rfl)) ?_
  refine zd_ac (ok_iload_n (l := l) (B := B) (y := m_Na_init) (pc := 5) (k := 1) rfl (zd_dr dc_Na_init 3 rfl)) ?_
  refine zd_ac (ok_newa_int (l := l) (B := B) (y := m_Na_init) (pc := 6) hG (List.mem_of_getElem? (i := 106) (by decide +kernel)) (zd_dr dc_Na_init 4 rfl)) ?_
  refine zd_ac (ok_putfF (l := l) (B := B) (y := m_Na_init) (pc := 8) hG (C := zR4) (T := zT4) (N := 2) (ci := 4) (k := 0) rfl zl4 zt4 (by decide) (List.mem_of_getElem? (i := 96) (by decide +kernel)) rfl rfl rfl (zd_dr dc_Na_init 5 rfl)) ?_
  refine zd_ac (ok_vret (l := l) (B := B) (y := m_Na_init) (pc := 11) rfl (zd_dr dc_Na_init 6 rfl)) ?_
  exact zd_an
def dl_Na_isZero : List (Nat × Instr × Nat) := [(0, .aload_n 0, 1), (1, .getfield 15, 3), (4, .ifCond .ne (7), 3), (7, .iconst (1), 1), (8, .goto (4), 3), (11, .iconst (0), 1), (12, .ireturn, 1)]
theorem dc_Na_isZero : ∀ q ∈ dl_Na_isZero, decode (zd_yb m_Na_isZero) q.1 = .ok q.2 := by decide +kernel
def cd_Na_isZero (l : Launch) (B : zd_B) : List (Nat × zd_S) := [(0, oc_aload 0 1), (1, oc_getf B 4 1 4), (4, oc_if_ne 11 7), (7, oc_ci (1) 8), (8, oc_goto 12), (11, oc_ci (0) 12), (12, oc_iret .boolean)]
set_option maxRecDepth 20000 in
theorem ok_Na_isZero {l : Launch} {B : zd_B} (hG : zd_G B) (hl : l.stackTraces = false) : ∀ q ∈ cd_Na_isZero l B, zd_ok l B m_Na_isZero q.1 q.2 := by
  unfold cd_Na_isZero
  refine zd_ac (ok_aload_n (l := l) (B := B) (y := m_Na_isZero) (pc := 0) (k := 0) rfl (zd_dr dc_Na_isZero 0 rfl)) ?_
  refine zd_ac (ok_getf (l := l) (B := B) (y := m_Na_isZero) (pc := 1) hG (C := zR4) (T := zT4) (N := 2) (ci := 4) (k := 1) rfl zl4 (by decide) (List.mem_of_getElem? (i := 98) (by decide +kernel)) (zd_dr dc_Na_isZero 1 rfl)) ?_
  refine zd_ac (ok_if_ne (l := l) (B := B) (y := m_Na_isZero) (pc := 4) (zd_dr dc_Na_isZero 2 rfl) (by decide)) ?_
  refine zd_ac (ok_iconst (l := l) (B := B) (y := m_Na_isZero) (pc := 7) (n := (1)) (zd_dr dc_Na_isZero 3 rfl) rfl) ?_
  refine zd_ac (ok_goto (l := l) (B := B) (y := m_Na_isZero) (pc := 8) (zd_dr dc_Na_isZero 4 rfl) (by decide)) ?_
  refine zd_ac (ok_iconst (l := l) (B := B) (y := m_Na_isZero) (pc := 11) (n := (0)) (zd_dr dc_Na_isZero 5 rfl) rfl) ?_
  refine zd_ac (ok_iret (l := l) (B := B) (y := m_Na_isZero) (pc := 12) rfl (zd_dr dc_Na_isZero 6 rfl)) ?_
  exact zd_an
def dl_Na_digits : List (Nat × Instr × Nat) := [(0, .aload_n 0, 1), (1, .getfield 15, 3), (4, .ifCond .ne (5), 3), (7, .iconst (1), 1), (8, .ireturn, 1), (9, .iconst (1), 1), (10, .istore_n 1, 1), (11, .iload_n 1, 1), (12, .bipush (9), 2), (14, .if_icmp .ge (28), 3), (17, .aload_n 0, 1), (18, .getfield 9, 3), (21, .aload_n 0, 1), (22, .getfield 15, 3), (25, .iconst (1), 1), (26, .isub, 1), (27, .iaload, 1), (28, .getstatic 19, 3), (31, .iload_n 1, 1), (32, .iaload, 1), (33, .if_icmp .lt (9), 3), (36, .iinc 1 (1), 3), (39, .goto (-28), 3), (42, .aload_n 0, 1), (43, .getfield 15, 3), (46, .iconst (1), 1), (47, .isub, 1), (48, .bipush (9), 2), (50, .imul, 1), (51, .iload_n 1, 1), (52, .iadd, 1), (53, .ireturn, 1)]
theorem dc_Na_digits : ∀ q ∈ dl_Na_digits, decode (zd_yb m_Na_digits) q.1 = .ok q.2 := by decide +kernel
def cd_Na_digits (l : Launch) (B : zd_B) : List (Nat × zd_S) := [(0, oc_aload 0 1), (1, oc_getf B 4 1 4), (4, oc_if_ne 9 7), (7, oc_ci (1) 8), (8, oc_iret .int), (9, oc_ci (1) 10), (10, oc_istore 1 11), (11, oc_iload 1 12), (12, oc_ci (9) 14), (14, oc_icmp_ge 42 17), (17, oc_aload 0 18), (18, oc_getf B 4 0 21), (21, oc_aload 0 22), (22, oc_getf B 4 1 25), (25, oc_ci (1) 26), (26, oc_isub 27), (27, oc_iaload B 28), (28, oc_tens B 31), (31, oc_iload 1 32), (32, oc_iaload B 33), (33, oc_icmp_lt 42 36), (36, oc_iinc 1 (1) 39), (39, oc_goto 11), (42, oc_aload 0 43), (43, oc_getf B 4 1 46), (46, oc_ci (1) 47), (47, oc_isub 48), (48, oc_ci (9) 50), (50, oc_imul 51), (51, oc_iload 1 52), (52, oc_iadd 53), (53, oc_iret .int)]
set_option maxRecDepth 20000 in
theorem ok_Na_digits {l : Launch} {B : zd_B} (hG : zd_G B) (hl : l.stackTraces = false) : ∀ q ∈ cd_Na_digits l B, zd_ok l B m_Na_digits q.1 q.2 := by
  unfold cd_Na_digits
  refine zd_ac (ok_aload_n (l := l) (B := B) (y := m_Na_digits) (pc := 0) (k := 0) rfl (zd_dr dc_Na_digits 0 rfl)) ?_
  refine zd_ac (ok_getf (l := l) (B := B) (y := m_Na_digits) (pc := 1) hG (C := zR4) (T := zT4) (N := 2) (ci := 4) (k := 1) rfl zl4 (by decide) (List.mem_of_getElem? (i := 98) (by decide +kernel)) (zd_dr dc_Na_digits 1 rfl)) ?_
  refine zd_ac (ok_if_ne (l := l) (B := B) (y := m_Na_digits) (pc := 4) (zd_dr dc_Na_digits 2 rfl) (by decide)) ?_
  refine zd_ac (ok_iconst (l := l) (B := B) (y := m_Na_digits) (pc := 7) (n := (1)) (zd_dr dc_Na_digits 3 rfl) rfl) ?_
  refine zd_ac (ok_iret (l := l) (B := B) (y := m_Na_digits) (pc := 8) rfl (zd_dr dc_Na_digits 4 rfl)) ?_
  refine zd_ac (ok_iconst (l := l) (B := B) (y := m_Na_digits) (pc := 9) (n := (1)) (zd_dr dc_Na_digits 5 rfl) rfl) ?_
  refine zd_ac (ok_istore_n (l := l) (B := B) (y := m_Na_digits) (pc := 10) (k := 1) rfl (zd_dr dc_Na_digits 6 rfl) (by decide)) ?_
  refine zd_ac (ok_iload_n (l := l) (B := B) (y := m_Na_digits) (pc := 11) (k := 1) rfl (zd_dr dc_Na_digits 7 rfl)) ?_
  refine zd_ac (ok_bipush (l := l) (B := B) (y := m_Na_digits) (pc := 12) (n := (9)) (zd_dr dc_Na_digits 8 rfl) rfl) ?_
  refine zd_ac (ok_icmp_ge (l := l) (B := B) (y := m_Na_digits) (pc := 14) (zd_dr dc_Na_digits 9 rfl) (by decide)) ?_
  refine zd_ac (ok_aload_n (l := l) (B := B) (y := m_Na_digits) (pc := 17) (k := 0) rfl (zd_dr dc_Na_digits 10 rfl)) ?_
  refine zd_ac (ok_getf (l := l) (B := B) (y := m_Na_digits) (pc := 18) hG (C := zR4) (T := zT4) (N := 2) (ci := 4) (k := 0) rfl zl4 (by decide) (List.mem_of_getElem? (i := 96) (by decide +kernel)) (zd_dr dc_Na_digits 11 rfl)) ?_
  refine zd_ac (ok_aload_n (l := l) (B := B) (y := m_Na_digits) (pc := 21) (k := 0) rfl (zd_dr dc_Na_digits 12 rfl)) ?_
  refine zd_ac (ok_getf (l := l) (B := B) (y := m_Na_digits) (pc := 22) hG (C := zR4) (T := zT4) (N := 2) (ci := 4) (k := 1) rfl zl4 (by decide) (List.mem_of_getElem? (i := 98) (by decide +kernel)) (zd_dr dc_Na_digits 13 rfl)) ?_
  refine zd_ac (ok_iconst (l := l) (B := B) (y := m_Na_digits) (pc := 25) (n := (1)) (zd_dr dc_Na_digits 14 rfl) rfl) ?_
  refine zd_ac (ok_isub (l := l) (B := B) (y := m_Na_digits) (pc := 26) (zd_dr dc_Na_digits 15 rfl)) ?_
  refine zd_ac (ok_iaload (l := l) (B := B) (y := m_Na_digits) (pc := 27) hG (zd_dr dc_Na_digits 16 rfl)) ?_
  refine zd_ac (ok_tensN (l := l) (B := B) (y := m_Na_digits) (pc := 28) (host := "DecimalDesk") hG (List.mem_of_getElem? (i := 452) (by decide +kernel)) (zd_dr dc_Na_digits 17 rfl)) ?_
  refine zd_ac (ok_iload_n (l := l) (B := B) (y := m_Na_digits) (pc := 31) (k := 1) rfl (zd_dr dc_Na_digits 18 rfl)) ?_
  refine zd_ac (ok_iaload (l := l) (B := B) (y := m_Na_digits) (pc := 32) hG (zd_dr dc_Na_digits 19 rfl)) ?_
  refine zd_ac (ok_icmp_lt (l := l) (B := B) (y := m_Na_digits) (pc := 33) (zd_dr dc_Na_digits 20 rfl) (by decide)) ?_
  refine zd_ac (ok_iinc (l := l) (B := B) (y := m_Na_digits) (pc := 36) (zd_dr dc_Na_digits 21 rfl) (by decide) rfl) ?_
  refine zd_ac (ok_goto (l := l) (B := B) (y := m_Na_digits) (pc := 39) (zd_dr dc_Na_digits 22 rfl) (by decide)) ?_
  refine zd_ac (ok_aload_n (l := l) (B := B) (y := m_Na_digits) (pc := 42) (k := 0) rfl (zd_dr dc_Na_digits 23 rfl)) ?_
  refine zd_ac (ok_getf (l := l) (B := B) (y := m_Na_digits) (pc := 43) hG (C := zR4) (T := zT4) (N := 2) (ci := 4) (k := 1) rfl zl4 (by decide) (List.mem_of_getElem? (i := 98) (by decide +kernel)) (zd_dr dc_Na_digits 24 rfl)) ?_
  refine zd_ac (ok_iconst (l := l) (B := B) (y := m_Na_digits) (pc := 46) (n := (1)) (zd_dr dc_Na_digits 25 rfl) rfl) ?_
  refine zd_ac (ok_isub (l := l) (B := B) (y := m_Na_digits) (pc := 47) (zd_dr dc_Na_digits 26 rfl)) ?_
  refine zd_ac (ok_bipush (l := l) (B := B) (y := m_Na_digits) (pc := 48) (n := (9)) (zd_dr dc_Na_digits 27 rfl) rfl) ?_
  refine zd_ac (ok_imul (l := l) (B := B) (y := m_Na_digits) (pc := 50) (zd_dr dc_Na_digits 28 rfl)) ?_
  refine zd_ac (ok_iload_n (l := l) (B := B) (y := m_Na_digits) (pc := 51) (k := 1) rfl (zd_dr dc_Na_digits 29 rfl)) ?_
  refine zd_ac (ok_iadd (l := l) (B := B) (y := m_Na_digits) (pc := 52) (zd_dr dc_Na_digits 30 rfl)) ?_
  refine zd_ac (ok_iret (l := l) (B := B) (y := m_Na_digits) (pc := 53) rfl (zd_dr dc_Na_digits 31 rfl)) ?_
  exact zd_an
def dl_Na_digitAt : List (Nat × Instr × Nat) := [(0, .iload_n 1, 1), (1, .ifCond .lt (14), 3), (4, .iload_n 1, 1), (5, .bipush (9), 2), (7, .idiv, 1), (8, .aload_n 0, 1), (9, .getfield 15, 3), (12, .if_icmp .lt (5), 3), (15, .iconst (0), 1), (16, .ireturn, 1), (17, .aload_n 0, 1), (18, .getfield 9, 3), (21, .iload_n 1, 1), (22, .bipush (9), 2), (24, .idiv, 1), (25, .iaload, 1), (26, .getstatic 19, 3), (29, .iload_n 1, 1), (30, .bipush (9), 2), (32, .irem, 1), (33, .iaload, 1), (34, .idiv, 1), (35, .bipush (10), 2), (37, .irem, 1), (38, .ireturn, 1)]
theorem dc_Na_digitAt : ∀ q ∈ dl_Na_digitAt, decode (zd_yb m_Na_digitAt) q.1 = .ok q.2 := by decide +kernel
def cd_Na_digitAt (l : Launch) (B : zd_B) : List (Nat × zd_S) := [(0, oc_iload 1 1), (1, oc_if_lt 15 4), (4, oc_iload 1 5), (5, oc_ci (9) 7), (7, oc_idiv 8), (8, oc_aload 0 9), (9, oc_getf B 4 1 12), (12, oc_icmp_lt 17 15), (15, oc_ci (0) 16), (16, oc_iret .int), (17, oc_aload 0 18), (18, oc_getf B 4 0 21), (21, oc_iload 1 22), (22, oc_ci (9) 24), (24, oc_idiv 25), (25, oc_iaload B 26), (26, oc_tens B 29), (29, oc_iload 1 30), (30, oc_ci (9) 32), (32, oc_irem 33), (33, oc_iaload B 34), (34, oc_idiv 35), (35, oc_ci (10) 37), (37, oc_irem 38), (38, oc_iret .int)]
set_option maxRecDepth 20000 in
theorem ok_Na_digitAt {l : Launch} {B : zd_B} (hG : zd_G B) (hl : l.stackTraces = false) : ∀ q ∈ cd_Na_digitAt l B, zd_ok l B m_Na_digitAt q.1 q.2 := by
  unfold cd_Na_digitAt
  refine zd_ac (ok_iload_n (l := l) (B := B) (y := m_Na_digitAt) (pc := 0) (k := 1) rfl (zd_dr dc_Na_digitAt 0 rfl)) ?_
  refine zd_ac (ok_if_lt (l := l) (B := B) (y := m_Na_digitAt) (pc := 1) (zd_dr dc_Na_digitAt 1 rfl) (by decide)) ?_
  refine zd_ac (ok_iload_n (l := l) (B := B) (y := m_Na_digitAt) (pc := 4) (k := 1) rfl (zd_dr dc_Na_digitAt 2 rfl)) ?_
  refine zd_ac (ok_bipush (l := l) (B := B) (y := m_Na_digitAt) (pc := 5) (n := (9)) (zd_dr dc_Na_digitAt 3 rfl) rfl) ?_
  refine zd_ac (ok_idiv (l := l) (B := B) (y := m_Na_digitAt) (pc := 7) (zd_dr dc_Na_digitAt 4 rfl)) ?_
  refine zd_ac (ok_aload_n (l := l) (B := B) (y := m_Na_digitAt) (pc := 8) (k := 0) rfl (zd_dr dc_Na_digitAt 5 rfl)) ?_
  refine zd_ac (ok_getf (l := l) (B := B) (y := m_Na_digitAt) (pc := 9) hG (C := zR4) (T := zT4) (N := 2) (ci := 4) (k := 1) rfl zl4 (by decide) (List.mem_of_getElem? (i := 98) (by decide +kernel)) (zd_dr dc_Na_digitAt 6 rfl)) ?_
  refine zd_ac (ok_icmp_lt (l := l) (B := B) (y := m_Na_digitAt) (pc := 12) (zd_dr dc_Na_digitAt 7 rfl) (by decide)) ?_
  refine zd_ac (ok_iconst (l := l) (B := B) (y := m_Na_digitAt) (pc := 15) (n := (0)) (zd_dr dc_Na_digitAt 8 rfl) rfl) ?_
  refine zd_ac (ok_iret (l := l) (B := B) (y := m_Na_digitAt) (pc := 16) rfl (zd_dr dc_Na_digitAt 9 rfl)) ?_
  refine zd_ac (ok_aload_n (l := l) (B := B) (y := m_Na_digitAt) (pc := 17) (k := 0) rfl (zd_dr dc_Na_digitAt 10 rfl)) ?_
  refine zd_ac (ok_getf (l := l) (B := B) (y := m_Na_digitAt) (pc := 18) hG (C := zR4) (T := zT4) (N := 2) (ci := 4) (k := 0) rfl zl4 (by decide) (List.mem_of_getElem? (i := 96) (by decide +kernel)) (zd_dr dc_Na_digitAt 11 rfl)) ?_
  refine zd_ac (ok_iload_n (l := l) (B := B) (y := m_Na_digitAt) (pc := 21) (k := 1) rfl (zd_dr dc_Na_digitAt 12 rfl)) ?_
  refine zd_ac (ok_bipush (l := l) (B := B) (y := m_Na_digitAt) (pc := 22) (n := (9)) (zd_dr dc_Na_digitAt 13 rfl) rfl) ?_
  refine zd_ac (ok_idiv (l := l) (B := B) (y := m_Na_digitAt) (pc := 24) (zd_dr dc_Na_digitAt 14 rfl)) ?_
  refine zd_ac (ok_iaload (l := l) (B := B) (y := m_Na_digitAt) (pc := 25) hG (zd_dr dc_Na_digitAt 15 rfl)) ?_
  refine zd_ac (ok_tensN (l := l) (B := B) (y := m_Na_digitAt) (pc := 26) (host := "DecimalDesk") hG (List.mem_of_getElem? (i := 452) (by decide +kernel)) (zd_dr dc_Na_digitAt 16 rfl)) ?_
  refine zd_ac (ok_iload_n (l := l) (B := B) (y := m_Na_digitAt) (pc := 29) (k := 1) rfl (zd_dr dc_Na_digitAt 17 rfl)) ?_
  refine zd_ac (ok_bipush (l := l) (B := B) (y := m_Na_digitAt) (pc := 30) (n := (9)) (zd_dr dc_Na_digitAt 18 rfl) rfl) ?_
  refine zd_ac (ok_irem (l := l) (B := B) (y := m_Na_digitAt) (pc := 32) (zd_dr dc_Na_digitAt 19 rfl)) ?_
  refine zd_ac (ok_iaload (l := l) (B := B) (y := m_Na_digitAt) (pc := 33) hG (zd_dr dc_Na_digitAt 20 rfl)) ?_
  refine zd_ac (ok_idiv (l := l) (B := B) (y := m_Na_digitAt) (pc := 34) (zd_dr dc_Na_digitAt 21 rfl)) ?_
  refine zd_ac (ok_bipush (l := l) (B := B) (y := m_Na_digitAt) (pc := 35) (n := (10)) (zd_dr dc_Na_digitAt 22 rfl) rfl) ?_
  refine zd_ac (ok_irem (l := l) (B := B) (y := m_Na_digitAt) (pc := 37) (zd_dr dc_Na_digitAt 23 rfl)) ?_
  refine zd_ac (ok_iret (l := l) (B := B) (y := m_Na_digitAt) (pc := 38) rfl (zd_dr dc_Na_digitAt 24 rfl)) ?_
  exact zd_an
def dl_Na_trailingZeros : List (Nat × Instr × Nat) := [(0, .iconst (0), 1), (1, .istore_n 1, 1), (2, .iload_n 1, 1), (3, .aload_n 0, 1), (4, .getfield 15, 3), (7, .if_icmp .ge (18), 3), (10, .aload_n 0, 1), (11, .getfield 9, 3), (14, .iload_n 1, 1), (15, .iaload, 1), (16, .ifCond .ne (9), 3), (19, .iinc 1 (1), 3), (22, .goto (-20), 3), (25, .iload_n 1, 1), (26, .aload_n 0, 1), (27, .getfield 15, 3), (30, .if_icmp .ne (5), 3), (33, .iconst (0), 1), (34, .ireturn, 1), (35, .iconst (0), 1), (36, .istore_n 2, 1), (37, .iload_n 2, 1), (38, .bipush (8), 2), (40, .if_icmp .ge (26), 3), (43, .aload_n 0, 1), (44, .getfield 9, 3), (47, .iload_n 1, 1), (48, .iaload, 1), (49, .getstatic 19, 3), (52, .iload_n 2, 1), (53, .iconst (1), 1), (54, .iadd, 1), (55, .iaload, 1), (56, .irem, 1), (57, .ifCond .ne (9), 3), (60, .iinc 2 (1), 3), (63, .goto (-26), 3), (66, .iload_n 1, 1), (67, .bipush (9), 2), (69, .imul, 1), (70, .iload_n 2, 1), (71, .iadd, 1), (72, .ireturn, 1)]
theorem dc_Na_trailingZeros : ∀ q ∈ dl_Na_trailingZeros, decode (zd_yb m_Na_trailingZeros) q.1 = .ok q.2 := by decide +kernel
def cd_Na_trailingZeros (l : Launch) (B : zd_B) : List (Nat × zd_S) := [(0, oc_ci (0) 1), (1, oc_istore 1 2), (2, oc_iload 1 3), (3, oc_aload 0 4), (4, oc_getf B 4 1 7), (7, oc_icmp_ge 25 10), (10, oc_aload 0 11), (11, oc_getf B 4 0 14), (14, oc_iload 1 15), (15, oc_iaload B 16), (16, oc_if_ne 25 19), (19, oc_iinc 1 (1) 22), (22, oc_goto 2), (25, oc_iload 1 26), (26, oc_aload 0 27), (27, oc_getf B 4 1 30), (30, oc_icmp_ne 35 33), (33, oc_ci (0) 34), (34, oc_iret .int), (35, oc_ci (0) 36), (36, oc_istore 2 37), (37, oc_iload 2 38), (38, oc_ci (8) 40), (40, oc_icmp_ge 66 43), (43, oc_aload 0 44), (44, oc_getf B 4 0 47), (47, oc_iload 1 48), (48, oc_iaload B 49), (49, oc_tens B 52), (52, oc_iload 2 53), (53, oc_ci (1) 54), (54, oc_iadd 55), (55, oc_iaload B 56), (56, oc_irem 57), (57, oc_if_ne 66 60), (60, oc_iinc 2 (1) 63), (63, oc_goto 37), (66, oc_iload 1 67), (67, oc_ci (9) 69), (69, oc_imul 70), (70, oc_iload 2 71), (71, oc_iadd 72), (72, oc_iret .int)]
set_option maxRecDepth 20000 in
theorem ok_Na_trailingZeros {l : Launch} {B : zd_B} (hG : zd_G B) (hl : l.stackTraces = false) : ∀ q ∈ cd_Na_trailingZeros l B, zd_ok l B m_Na_trailingZeros q.1 q.2 := by
  unfold cd_Na_trailingZeros
  refine zd_ac (ok_iconst (l := l) (B := B) (y := m_Na_trailingZeros) (pc := 0) (n := (0)) (zd_dr dc_Na_trailingZeros 0 rfl) rfl) ?_
  refine zd_ac (ok_istore_n (l := l) (B := B) (y := m_Na_trailingZeros) (pc := 1) (k := 1) rfl (zd_dr dc_Na_trailingZeros 1 rfl) (by decide)) ?_
  refine zd_ac (ok_iload_n (l := l) (B := B) (y := m_Na_trailingZeros) (pc := 2) (k := 1) rfl (zd_dr dc_Na_trailingZeros 2 rfl)) ?_
  refine zd_ac (ok_aload_n (l := l) (B := B) (y := m_Na_trailingZeros) (pc := 3) (k := 0) rfl (zd_dr dc_Na_trailingZeros 3 rfl)) ?_
  refine zd_ac (ok_getf (l := l) (B := B) (y := m_Na_trailingZeros) (pc := 4) hG (C := zR4) (T := zT4) (N := 2) (ci := 4) (k := 1) rfl zl4 (by decide) (List.mem_of_getElem? (i := 98) (by decide +kernel)) (zd_dr dc_Na_trailingZeros 4 rfl)) ?_
  refine zd_ac (ok_icmp_ge (l := l) (B := B) (y := m_Na_trailingZeros) (pc := 7) (zd_dr dc_Na_trailingZeros 5 rfl) (by decide)) ?_
  refine zd_ac (ok_aload_n (l := l) (B := B) (y := m_Na_trailingZeros) (pc := 10) (k := 0) rfl (zd_dr dc_Na_trailingZeros 6 rfl)) ?_
  refine zd_ac (ok_getf (l := l) (B := B) (y := m_Na_trailingZeros) (pc := 11) hG (C := zR4) (T := zT4) (N := 2) (ci := 4) (k := 0) rfl zl4 (by decide) (List.mem_of_getElem? (i := 96) (by decide +kernel)) (zd_dr dc_Na_trailingZeros 7 rfl)) ?_
  refine zd_ac (ok_iload_n (l := l) (B := B) (y := m_Na_trailingZeros) (pc := 14) (k := 1) rfl (zd_dr dc_Na_trailingZeros 8 rfl)) ?_
  refine zd_ac (ok_iaload (l := l) (B := B) (y := m_Na_trailingZeros) (pc := 15) hG (zd_dr dc_Na_trailingZeros 9 rfl)) ?_
  refine zd_ac (ok_if_ne (l := l) (B := B) (y := m_Na_trailingZeros) (pc := 16) (zd_dr dc_Na_trailingZeros 10 rfl) (by decide)) ?_
  refine zd_ac (ok_iinc (l := l) (B := B) (y := m_Na_trailingZeros) (pc := 19) (zd_dr dc_Na_trailingZeros 11 rfl) (by decide) rfl) ?_
  refine zd_ac (ok_goto (l := l) (B := B) (y := m_Na_trailingZeros) (pc := 22) (zd_dr dc_Na_trailingZeros 12 rfl) (by decide)) ?_
  refine zd_ac (ok_iload_n (l := l) (B := B) (y := m_Na_trailingZeros) (pc := 25) (k := 1) rfl (zd_dr dc_Na_trailingZeros 13 rfl)) ?_
  refine zd_ac (ok_aload_n (l := l) (B := B) (y := m_Na_trailingZeros) (pc := 26) (k := 0) rfl (zd_dr dc_Na_trailingZeros 14 rfl)) ?_
  refine zd_ac (ok_getf (l := l) (B := B) (y := m_Na_trailingZeros) (pc := 27) hG (C := zR4) (T := zT4) (N := 2) (ci := 4) (k := 1) rfl zl4 (by decide) (List.mem_of_getElem? (i := 98) (by decide +kernel)) (zd_dr dc_Na_trailingZeros 15 rfl)) ?_
  refine zd_ac (ok_icmp_ne (l := l) (B := B) (y := m_Na_trailingZeros) (pc := 30) (zd_dr dc_Na_trailingZeros 16 rfl) (by decide)) ?_
  refine zd_ac (ok_iconst (l := l) (B := B) (y := m_Na_trailingZeros) (pc := 33) (n := (0)) (zd_dr dc_Na_trailingZeros 17 rfl) rfl) ?_
  refine zd_ac (ok_iret (l := l) (B := B) (y := m_Na_trailingZeros) (pc := 34) rfl (zd_dr dc_Na_trailingZeros 18 rfl)) ?_
  refine zd_ac (ok_iconst (l := l) (B := B) (y := m_Na_trailingZeros) (pc := 35) (n := (0)) (zd_dr dc_Na_trailingZeros 19 rfl) rfl) ?_
  refine zd_ac (ok_istore_n (l := l) (B := B) (y := m_Na_trailingZeros) (pc := 36) (k := 2) rfl (zd_dr dc_Na_trailingZeros 20 rfl) (by decide)) ?_
  refine zd_ac (ok_iload_n (l := l) (B := B) (y := m_Na_trailingZeros) (pc := 37) (k := 2) rfl (zd_dr dc_Na_trailingZeros 21 rfl)) ?_
  refine zd_ac (ok_bipush (l := l) (B := B) (y := m_Na_trailingZeros) (pc := 38) (n := (8)) (zd_dr dc_Na_trailingZeros 22 rfl) rfl) ?_
  refine zd_ac (ok_icmp_ge (l := l) (B := B) (y := m_Na_trailingZeros) (pc := 40) (zd_dr dc_Na_trailingZeros 23 rfl) (by decide)) ?_
  refine zd_ac (ok_aload_n (l := l) (B := B) (y := m_Na_trailingZeros) (pc := 43) (k := 0) rfl (zd_dr dc_Na_trailingZeros 24 rfl)) ?_
  refine zd_ac (ok_getf (l := l) (B := B) (y := m_Na_trailingZeros) (pc := 44) hG (C := zR4) (T := zT4) (N := 2) (ci := 4) (k := 0) rfl zl4 (by decide) (List.mem_of_getElem? (i := 96) (by decide +kernel)) (zd_dr dc_Na_trailingZeros 25 rfl)) ?_
  refine zd_ac (ok_iload_n (l := l) (B := B) (y := m_Na_trailingZeros) (pc := 47) (k := 1) rfl (zd_dr dc_Na_trailingZeros 26 rfl)) ?_
  refine zd_ac (ok_iaload (l := l) (B := B) (y := m_Na_trailingZeros) (pc := 48) hG (zd_dr dc_Na_trailingZeros 27 rfl)) ?_
  refine zd_ac (ok_tensN (l := l) (B := B) (y := m_Na_trailingZeros) (pc := 49) (host := "DecimalDesk") hG (List.mem_of_getElem? (i := 452) (by decide +kernel)) (zd_dr dc_Na_trailingZeros 28 rfl)) ?_
  refine zd_ac (ok_iload_n (l := l) (B := B) (y := m_Na_trailingZeros) (pc := 52) (k := 2) rfl (zd_dr dc_Na_trailingZeros 29 rfl)) ?_
  refine zd_ac (ok_iconst (l := l) (B := B) (y := m_Na_trailingZeros) (pc := 53) (n := (1)) (zd_dr dc_Na_trailingZeros 30 rfl) rfl) ?_
  refine zd_ac (ok_iadd (l := l) (B := B) (y := m_Na_trailingZeros) (pc := 54) (zd_dr dc_Na_trailingZeros 31 rfl)) ?_
  refine zd_ac (ok_iaload (l := l) (B := B) (y := m_Na_trailingZeros) (pc := 55) hG (zd_dr dc_Na_trailingZeros 32 rfl)) ?_
  refine zd_ac (ok_irem (l := l) (B := B) (y := m_Na_trailingZeros) (pc := 56) (zd_dr dc_Na_trailingZeros 33 rfl)) ?_
  refine zd_ac (ok_if_ne (l := l) (B := B) (y := m_Na_trailingZeros) (pc := 57) (zd_dr dc_Na_trailingZeros 34 rfl) (by decide)) ?_
  refine zd_ac (ok_iinc (l := l) (B := B) (y := m_Na_trailingZeros) (pc := 60) (zd_dr dc_Na_trailingZeros 35 rfl) (by decide) rfl) ?_
  refine zd_ac (ok_goto (l := l) (B := B) (y := m_Na_trailingZeros) (pc := 63) (zd_dr dc_Na_trailingZeros 36 rfl) (by decide)) ?_
  refine zd_ac (ok_iload_n (l := l) (B := B) (y := m_Na_trailingZeros) (pc := 66) (k := 1) rfl (zd_dr dc_Na_trailingZeros 37 rfl)) ?_
  refine zd_ac (ok_bipush (l := l) (B := B) (y := m_Na_trailingZeros) (pc := 67) (n := (9)) (zd_dr dc_Na_trailingZeros 38 rfl) rfl) ?_
  refine zd_ac (ok_imul (l := l) (B := B) (y := m_Na_trailingZeros) (pc := 69) (zd_dr dc_Na_trailingZeros 39 rfl)) ?_
  refine zd_ac (ok_iload_n (l := l) (B := B) (y := m_Na_trailingZeros) (pc := 70) (k := 2) rfl (zd_dr dc_Na_trailingZeros 40 rfl)) ?_
  refine zd_ac (ok_iadd (l := l) (B := B) (y := m_Na_trailingZeros) (pc := 71) (zd_dr dc_Na_trailingZeros 41 rfl)) ?_
  refine zd_ac (ok_iret (l := l) (B := B) (y := m_Na_trailingZeros) (pc := 72) rfl (zd_dr dc_Na_trailingZeros 42 rfl)) ?_
  exact zd_an
def dl_Na_order : List (Nat × Instr × Nat) := [(0, .aload_n 0, 1), (1, .getfield 15, 3), (4, .aload_n 1, 1), (5, .getfield 15, 3), (8, .if_icmp .eq (15), 3), (11, .aload_n 0, 1), (12, .getfield 15, 3), (15, .aload_n 1, 1), (16, .getfield 15, 3), (19, .invokestatic 22, 3), (22, .ireturn, 1), (23, .aload_n 0, 1), (24, .getfield 15, 3), (27, .iconst (1), 1), (28, .isub, 1), (29, .istore_n 2, 1), (30, .iload_n 2, 1), (31, .ifCond .le (24), 3), (34, .aload_n 0, 1), (35, .getfield 9, 3), (38, .iload_n 2, 1), (39, .iaload, 1), (40, .aload_n 1, 1), (41, .getfield 9, 3), (44, .iload_n 2, 1), (45, .iaload, 1), (46, .if_icmp .ne (9), 3), (49, .iinc 2 (-1), 3), (52, .goto (-22), 3), (55, .iload_n 2, 1), (56, .ifCond .ge (7), 3), (59, .iconst (0), 1), (60, .goto (18), 3), (63, .aload_n 0, 1), (64, .getfield 9, 3), (67, .iload_n 2, 1), (68, .iaload, 1), (69, .aload_n 1, 1), (70, .getfield 9, 3), (73, .iload_n 2, 1), (74, .iaload, 1), (75, .invokestatic 22, 3), (78, .ireturn, 1)]
theorem dc_Na_order : ∀ q ∈ dl_Na_order, decode (zd_yb m_Na_order) q.1 = .ok q.2 := by decide +kernel
def cd_Na_order (l : Launch) (B : zd_B) : List (Nat × zd_S) := [(0, oc_aload 0 1), (1, oc_getf B 4 1 4), (4, oc_aload 1 5), (5, oc_getf B 4 1 8), (8, oc_icmp_eq 23 11), (11, oc_aload 0 12), (12, oc_getf B 4 1 15), (15, oc_aload 1 16), (16, oc_getf B 4 1 19), (19, oc_calls l B m_In_compare 2 22), (22, oc_iret .int), (23, oc_aload 0 24), (24, oc_getf B 4 1 27), (27, oc_ci (1) 28), (28, oc_isub 29), (29, oc_istore 2 30), (30, oc_iload 2 31), (31, oc_if_le 55 34), (34, oc_aload 0 35), (35, oc_getf B 4 0 38), (38, oc_iload 2 39), (39, oc_iaload B 40), (40, oc_aload 1 41), (41, oc_getf B 4 0 44), (44, oc_iload 2 45), (45, oc_iaload B 46), (46, oc_icmp_ne 55 49), (49, oc_iinc 2 (-1) 52), (52, oc_goto 30), (55, oc_iload 2 56), (56, oc_if_ge 63 59), (59, oc_ci (0) 60), (60, oc_goto 78), (63, oc_aload 0 64), (64, oc_getf B 4 0 67), (67, oc_iload 2 68), (68, oc_iaload B 69), (69, oc_aload 1 70), (70, oc_getf B 4 0 73), (73, oc_iload 2 74), (74, oc_iaload B 75), (75, oc_calls l B m_In_compare 2 78), (78, oc_iret .int)]
set_option maxRecDepth 20000 in
theorem ok_Na_order {l : Launch} {B : zd_B} (hG : zd_G B) (hl : l.stackTraces = false) : ∀ q ∈ cd_Na_order l B, zd_ok l B m_Na_order q.1 q.2 := by
  unfold cd_Na_order
  refine zd_ac (ok_aload_n (l := l) (B := B) (y := m_Na_order) (pc := 0) (k := 0) rfl (zd_dr dc_Na_order 0 rfl)) ?_
  refine zd_ac (ok_getf (l := l) (B := B) (y := m_Na_order) (pc := 1) hG (C := zR4) (T := zT4) (N := 2) (ci := 4) (k := 1) rfl zl4 (by decide) (List.mem_of_getElem? (i := 98) (by decide +kernel)) (zd_dr dc_Na_order 1 rfl)) ?_
  refine zd_ac (ok_aload_n (l := l) (B := B) (y := m_Na_order) (pc := 4) (k := 1) rfl (zd_dr dc_Na_order 2 rfl)) ?_
  refine zd_ac (ok_getf (l := l) (B := B) (y := m_Na_order) (pc := 5) hG (C := zR4) (T := zT4) (N := 2) (ci := 4) (k := 1) rfl zl4 (by decide) (List.mem_of_getElem? (i := 98) (by decide +kernel)) (zd_dr dc_Na_order 3 rfl)) ?_
  refine zd_ac (ok_icmp_eq (l := l) (B := B) (y := m_Na_order) (pc := 8) (zd_dr dc_Na_order 4 rfl) (by decide)) ?_
  refine zd_ac (ok_aload_n (l := l) (B := B) (y := m_Na_order) (pc := 11) (k := 0) rfl (zd_dr dc_Na_order 5 rfl)) ?_
  refine zd_ac (ok_getf (l := l) (B := B) (y := m_Na_order) (pc := 12) hG (C := zR4) (T := zT4) (N := 2) (ci := 4) (k := 1) rfl zl4 (by decide) (List.mem_of_getElem? (i := 98) (by decide +kernel)) (zd_dr dc_Na_order 6 rfl)) ?_
  refine zd_ac (ok_aload_n (l := l) (B := B) (y := m_Na_order) (pc := 15) (k := 1) rfl (zd_dr dc_Na_order 7 rfl)) ?_
  refine zd_ac (ok_getf (l := l) (B := B) (y := m_Na_order) (pc := 16) hG (C := zR4) (T := zT4) (N := 2) (ci := 4) (k := 1) rfl zl4 (by decide) (List.mem_of_getElem? (i := 98) (by decide +kernel)) (zd_dr dc_Na_order 8 rfl)) ?_
  refine zd_ac (ok_calls (l := l) (B := B) (y := m_Na_order) (pc := 19) hG cf_Na_order_In_compare rfl (List.mem_of_getElem? (i := 565) (by decide +kernel)) (List.mem_of_getElem? (i := 566) (by decide +kernel)) (List.mem_of_getElem? (i := 73) (by decide +kernel)) (zd_dr dc_Na_order 9 rfl)) ?_
  refine zd_ac (ok_iret (l := l) (B := B) (y := m_Na_order) (pc := 22) rfl (zd_dr dc_Na_order 10 rfl)) ?_
  refine zd_ac (ok_aload_n (l := l) (B := B) (y := m_Na_order) (pc := 23) (k := 0) rfl (zd_dr dc_Na_order 11 rfl)) ?_
  refine zd_ac (ok_getf (l := l) (B := B) (y := m_Na_order) (pc := 24) hG (C := zR4) (T := zT4) (N := 2) (ci := 4) (k := 1) rfl zl4 (by decide) (List.mem_of_getElem? (i := 98) (by decide +kernel)) (zd_dr dc_Na_order 12 rfl)) ?_
  refine zd_ac (ok_iconst (l := l) (B := B) (y := m_Na_order) (pc := 27) (n := (1)) (zd_dr dc_Na_order 13 rfl) rfl) ?_
  refine zd_ac (ok_isub (l := l) (B := B) (y := m_Na_order) (pc := 28) (zd_dr dc_Na_order 14 rfl)) ?_
  refine zd_ac (ok_istore_n (l := l) (B := B) (y := m_Na_order) (pc := 29) (k := 2) rfl (zd_dr dc_Na_order 15 rfl) (by decide)) ?_
  refine zd_ac (ok_iload_n (l := l) (B := B) (y := m_Na_order) (pc := 30) (k := 2) rfl (zd_dr dc_Na_order 16 rfl)) ?_
  refine zd_ac (ok_if_le (l := l) (B := B) (y := m_Na_order) (pc := 31) (zd_dr dc_Na_order 17 rfl) (by decide)) ?_
  refine zd_ac (ok_aload_n (l := l) (B := B) (y := m_Na_order) (pc := 34) (k := 0) rfl (zd_dr dc_Na_order 18 rfl)) ?_
  refine zd_ac (ok_getf (l := l) (B := B) (y := m_Na_order) (pc := 35) hG (C := zR4) (T := zT4) (N := 2) (ci := 4) (k := 0) rfl zl4 (by decide) (List.mem_of_getElem? (i := 96) (by decide +kernel)) (zd_dr dc_Na_order 19 rfl)) ?_
  refine zd_ac (ok_iload_n (l := l) (B := B) (y := m_Na_order) (pc := 38) (k := 2) rfl (zd_dr dc_Na_order 20 rfl)) ?_
  refine zd_ac (ok_iaload (l := l) (B := B) (y := m_Na_order) (pc := 39) hG (zd_dr dc_Na_order 21 rfl)) ?_
  refine zd_ac (ok_aload_n (l := l) (B := B) (y := m_Na_order) (pc := 40) (k := 1) rfl (zd_dr dc_Na_order 22 rfl)) ?_
  refine zd_ac (ok_getf (l := l) (B := B) (y := m_Na_order) (pc := 41) hG (C := zR4) (T := zT4) (N := 2) (ci := 4) (k := 0) rfl zl4 (by decide) (List.mem_of_getElem? (i := 96) (by decide +kernel)) (zd_dr dc_Na_order 23 rfl)) ?_
  refine zd_ac (ok_iload_n (l := l) (B := B) (y := m_Na_order) (pc := 44) (k := 2) rfl (zd_dr dc_Na_order 24 rfl)) ?_
  refine zd_ac (ok_iaload (l := l) (B := B) (y := m_Na_order) (pc := 45) hG (zd_dr dc_Na_order 25 rfl)) ?_
  refine zd_ac (ok_icmp_ne (l := l) (B := B) (y := m_Na_order) (pc := 46) (zd_dr dc_Na_order 26 rfl) (by decide)) ?_
  refine zd_ac (ok_iinc (l := l) (B := B) (y := m_Na_order) (pc := 49) (zd_dr dc_Na_order 27 rfl) (by decide) rfl) ?_
  refine zd_ac (ok_goto (l := l) (B := B) (y := m_Na_order) (pc := 52) (zd_dr dc_Na_order 28 rfl) (by decide)) ?_
  refine zd_ac (ok_iload_n (l := l) (B := B) (y := m_Na_order) (pc := 55) (k := 2) rfl (zd_dr dc_Na_order 29 rfl)) ?_
  refine zd_ac (ok_if_ge (l := l) (B := B) (y := m_Na_order) (pc := 56) (zd_dr dc_Na_order 30 rfl) (by decide)) ?_
  refine zd_ac (ok_iconst (l := l) (B := B) (y := m_Na_order) (pc := 59) (n := (0)) (zd_dr dc_Na_order 31 rfl) rfl) ?_
  refine zd_ac (ok_goto (l := l) (B := B) (y := m_Na_order) (pc := 60) (zd_dr dc_Na_order 32 rfl) (by decide)) ?_
  refine zd_ac (ok_aload_n (l := l) (B := B) (y := m_Na_order) (pc := 63) (k := 0) rfl (zd_dr dc_Na_order 33 rfl)) ?_
  refine zd_ac (ok_getf (l := l) (B := B) (y := m_Na_order) (pc := 64) hG (C := zR4) (T := zT4) (N := 2) (ci := 4) (k := 0) rfl zl4 (by decide) (List.mem_of_getElem? (i := 96) (by decide +kernel)) (zd_dr dc_Na_order 34 rfl)) ?_
  refine zd_ac (ok_iload_n (l := l) (B := B) (y := m_Na_order) (pc := 67) (k := 2) rfl (zd_dr dc_Na_order 35 rfl)) ?_
  refine zd_ac (ok_iaload (l := l) (B := B) (y := m_Na_order) (pc := 68) hG (zd_dr dc_Na_order 36 rfl)) ?_
  refine zd_ac (ok_aload_n (l := l) (B := B) (y := m_Na_order) (pc := 69) (k := 1) rfl (zd_dr dc_Na_order 37 rfl)) ?_
  refine zd_ac (ok_getf (l := l) (B := B) (y := m_Na_order) (pc := 70) hG (C := zR4) (T := zT4) (N := 2) (ci := 4) (k := 0) rfl zl4 (by decide) (List.mem_of_getElem? (i := 96) (by decide +kernel)) (zd_dr dc_Na_order 38 rfl)) ?_
  refine zd_ac (ok_iload_n (l := l) (B := B) (y := m_Na_order) (pc := 73) (k := 2) rfl (zd_dr dc_Na_order 39 rfl)) ?_
  refine zd_ac (ok_iaload (l := l) (B := B) (y := m_Na_order) (pc := 74) hG (zd_dr dc_Na_order 40 rfl)) ?_
  refine zd_ac (ok_calls (l := l) (B := B) (y := m_Na_order) (pc := 75) hG cf_Na_order_In_compare rfl (List.mem_of_getElem? (i := 565) (by decide +kernel)) (List.mem_of_getElem? (i := 566) (by decide +kernel)) (List.mem_of_getElem? (i := 73) (by decide +kernel)) (zd_dr dc_Na_order 41 rfl)) ?_
  refine zd_ac (ok_iret (l := l) (B := B) (y := m_Na_order) (pc := 78) rfl (zd_dr dc_Na_order 42 rfl)) ?_
  exact zd_an
def dl_Na_claim : List (Nat × Instr × Nat) := [(0, .iload_n 1, 1), (1, .aload_n 0, 1), (2, .getfield 9, 3), (5, .arraylength, 1), (6, .if_icmp .le (13), 3), (9, .new 28, 3), (12, .dup, 1), (13, .ldc 30, 2), (15, .invokespecial 32, 3), (18, .athrow, 1), (19, .aload_n 0, 1), (20, .iload_n 1, 1), (21, .putfield 15, 3), (24, .return_, 1)]
theorem dc_Na_claim : ∀ q ∈ dl_Na_claim, decode (zd_yb m_Na_claim) q.1 = .ok q.2 := by decide +kernel
def cd_Na_claim (l : Launch) (B : zd_B) : List (Nat × zd_S) := [(0, oc_iload 1 1), (1, oc_aload 0 2), (2, oc_getf B 4 0 5), (5, oc_arraylength B 6), (6, oc_icmp_le 19 9), (9, oc_throw B 11), (19, oc_aload 0 20), (20, oc_iload 1 21), (21, oc_putf B (zy4 1) 4 1 24), (24, oc_vret)]
set_option maxRecDepth 20000 in
theorem ok_Na_claim {l : Launch} {B : zd_B} (hG : zd_G B) (hl : l.stackTraces = false) : ∀ q ∈ cd_Na_claim l B, zd_ok l B m_Na_claim q.1 q.2 := by
  unfold cd_Na_claim
  refine zd_ac (ok_iload_n (l := l) (B := B) (y := m_Na_claim) (pc := 0) (k := 1) rfl (zd_dr dc_Na_claim 0 rfl)) ?_
  refine zd_ac (ok_aload_n (l := l) (B := B) (y := m_Na_claim) (pc := 1) (k := 0) rfl (zd_dr dc_Na_claim 1 rfl)) ?_
  refine zd_ac (ok_getf (l := l) (B := B) (y := m_Na_claim) (pc := 2) hG (C := zR4) (T := zT4) (N := 2) (ci := 4) (k := 0) rfl zl4 (by decide) (List.mem_of_getElem? (i := 96) (by decide +kernel)) (zd_dr dc_Na_claim 2 rfl)) ?_
  refine zd_ac (ok_arraylength (l := l) (B := B) (y := m_Na_claim) (pc := 5) hG (zd_dr dc_Na_claim 3 rfl)) ?_
  refine zd_ac (ok_icmp_le (l := l) (B := B) (y := m_Na_claim) (pc := 6) (zd_dr dc_Na_claim 4 rfl) (by decide)) ?_
  refine zd_ac (ok_throw (l := l) (B := B) (y := m_Na_claim) (pc := 9) hG hl zE11 zx_Na_28_30_32 rfl (by decide) (by decide) (zd_dr dc_Na_claim 5 rfl) (zd_dr dc_Na_claim 6 rfl) (zd_dr dc_Na_claim 7 rfl) (zd_dr dc_Na_claim 8 rfl) (zd_dr dc_Na_claim 9 rfl)) ?_
  refine zd_ac (ok_aload_n (l := l) (B := B) (y := m_Na_claim) (pc := 19) (k := 0) rfl (zd_dr dc_Na_claim 10 rfl)) ?_
  refine zd_ac (ok_iload_n (l := l) (B := B) (y := m_Na_claim) (pc := 20) (k := 1) rfl (zd_dr dc_Na_claim 11 rfl)) ?_
  refine zd_ac (ok_putf (l := l) (B := B) (y := m_Na_claim) (pc := 21) hG (C := zR4) (T := zT4) (N := 2) (ci := 4) (k := 1) rfl zl4 zt4 (by decide) (List.mem_of_getElem? (i := 98) (by decide +kernel)) rfl (zd_dr dc_Na_claim 12 rfl)) ?_
  refine zd_ac (ok_vret (l := l) (B := B) (y := m_Na_claim) (pc := 24) rfl (zd_dr dc_Na_claim 13 rfl)) ?_
  exact zd_an
def dl_Na_trim : List (Nat × Instr × Nat) := [(0, .aload_n 0, 1), (1, .getfield 15, 3), (4, .ifCond .le (30), 3), (7, .aload_n 0, 1), (8, .getfield 9, 3), (11, .aload_n 0, 1), (12, .getfield 15, 3), (15, .iconst (1), 1), (16, .isub, 1), (17, .iaload, 1), (18, .ifCond .ne (16), 3), (21, .aload_n 0, 1), (22, .dup, 1), (23, .getfield 15, 3), (26, .iconst (1), 1), (27, .isub, 1), (28, .putfield 15, 3), (31, .goto (-31), 3), (34, .return_, 1)]
theorem dc_Na_trim : ∀ q ∈ dl_Na_trim, decode (zd_yb m_Na_trim) q.1 = .ok q.2 := by decide +kernel
def cd_Na_trim (l : Launch) (B : zd_B) : List (Nat × zd_S) := [(0, oc_aload 0 1), (1, oc_getf B 4 1 4), (4, oc_if_le 34 7), (7, oc_aload 0 8), (8, oc_getf B 4 0 11), (11, oc_aload 0 12), (12, oc_getf B 4 1 15), (15, oc_ci (1) 16), (16, oc_isub 17), (17, oc_iaload B 18), (18, oc_if_ne 34 21), (21, oc_aload 0 22), (22, oc_dup 23), (23, oc_getf B 4 1 26), (26, oc_ci (1) 27), (27, oc_isub 28), (28, oc_putf B (zy4 1) 4 1 31), (31, oc_goto 0), (34, oc_vret)]
set_option maxRecDepth 20000 in
theorem ok_Na_trim {l : Launch} {B : zd_B} (hG : zd_G B) (hl : l.stackTraces = false) : ∀ q ∈ cd_Na_trim l B, zd_ok l B m_Na_trim q.1 q.2 := by
  unfold cd_Na_trim
  refine zd_ac (ok_aload_n (l := l) (B := B) (y := m_Na_trim) (pc := 0) (k := 0) rfl (zd_dr dc_Na_trim 0 rfl)) ?_
  refine zd_ac (ok_getf (l := l) (B := B) (y := m_Na_trim) (pc := 1) hG (C := zR4) (T := zT4) (N := 2) (ci := 4) (k := 1) rfl zl4 (by decide) (List.mem_of_getElem? (i := 98) (by decide +kernel)) (zd_dr dc_Na_trim 1 rfl)) ?_
  refine zd_ac (ok_if_le (l := l) (B := B) (y := m_Na_trim) (pc := 4) (zd_dr dc_Na_trim 2 rfl) (by decide)) ?_
  refine zd_ac (ok_aload_n (l := l) (B := B) (y := m_Na_trim) (pc := 7) (k := 0) rfl (zd_dr dc_Na_trim 3 rfl)) ?_
  refine zd_ac (ok_getf (l := l) (B := B) (y := m_Na_trim) (pc := 8) hG (C := zR4) (T := zT4) (N := 2) (ci := 4) (k := 0) rfl zl4 (by decide) (List.mem_of_getElem? (i := 96) (by decide +kernel)) (zd_dr dc_Na_trim 4 rfl)) ?_
  refine zd_ac (ok_aload_n (l := l) (B := B) (y := m_Na_trim) (pc := 11) (k := 0) rfl (zd_dr dc_Na_trim 5 rfl)) ?_
  refine zd_ac (ok_getf (l := l) (B := B) (y := m_Na_trim) (pc := 12) hG (C := zR4) (T := zT4) (N := 2) (ci := 4) (k := 1) rfl zl4 (by decide) (List.mem_of_getElem? (i := 98) (by decide +kernel)) (zd_dr dc_Na_trim 6 rfl)) ?_
  refine zd_ac (ok_iconst (l := l) (B := B) (y := m_Na_trim) (pc := 15) (n := (1)) (zd_dr dc_Na_trim 7 rfl) rfl) ?_
  refine zd_ac (ok_isub (l := l) (B := B) (y := m_Na_trim) (pc := 16) (zd_dr dc_Na_trim 8 rfl)) ?_
  refine zd_ac (ok_iaload (l := l) (B := B) (y := m_Na_trim) (pc := 17) hG (zd_dr dc_Na_trim 9 rfl)) ?_
  refine zd_ac (ok_if_ne (l := l) (B := B) (y := m_Na_trim) (pc := 18) (zd_dr dc_Na_trim 10 rfl) (by decide)) ?_
  refine zd_ac (ok_aload_n (l := l) (B := B) (y := m_Na_trim) (pc := 21) (k := 0) rfl (zd_dr dc_Na_trim 11 rfl)) ?_
  refine zd_ac (ok_dup (l := l) (B := B) (y := m_Na_trim) (pc := 22) (zd_dr dc_Na_trim 12 rfl)) ?_
  refine zd_ac (ok_getf (l := l) (B := B) (y := m_Na_trim) (pc := 23) hG (C := zR4) (T := zT4) (N := 2) (ci := 4) (k := 1) rfl zl4 (by decide) (List.mem_of_getElem? (i := 98) (by decide +kernel)) (zd_dr dc_Na_trim 13 rfl)) ?_
  refine zd_ac (ok_iconst (l := l) (B := B) (y := m_Na_trim) (pc := 26) (n := (1)) (zd_dr dc_Na_trim 14 rfl) rfl) ?_
  refine zd_ac (ok_isub (l := l) (B := B) (y := m_Na_trim) (pc := 27) (zd_dr dc_Na_trim 15 rfl)) ?_
  refine zd_ac (ok_putf (l := l) (B := B) (y := m_Na_trim) (pc := 28) hG (C := zR4) (T := zT4) (N := 2) (ci := 4) (k := 1) rfl zl4 zt4 (by decide) (List.mem_of_getElem? (i := 98) (by decide +kernel)) rfl (zd_dr dc_Na_trim 16 rfl)) ?_
  refine zd_ac (ok_goto (l := l) (B := B) (y := m_Na_trim) (pc := 31) (zd_dr dc_Na_trim 17 rfl) (by decide)) ?_
  refine zd_ac (ok_vret (l := l) (B := B) (y := m_Na_trim) (pc := 34) rfl (zd_dr dc_Na_trim 18 rfl)) ?_
  exact zd_an
def dl_Na_copy : List (Nat × Instr × Nat) := [(0, .aload_n 0, 1), (1, .aload_n 1, 1), (2, .getfield 15, 3), (5, .invokevirtual 35, 3), (8, .aload_n 1, 1), (9, .getfield 9, 3), (12, .iconst (0), 1), (13, .aload_n 0, 1), (14, .getfield 9, 3), (17, .iconst (0), 1), (18, .aload_n 0, 1), (19, .getfield 15, 3), (22, .invokestatic 39, 3), (25, .return_, 1)]
theorem dc_Na_copy : ∀ q ∈ dl_Na_copy, decode (zd_yb m_Na_copy) q.1 = .ok q.2 := by decide +kernel
def cd_Na_copy (l : Launch) (B : zd_B) : List (Nat × zd_S) := [(0, oc_aload 0 1), (1, oc_aload 1 2), (2, oc_getf B 4 1 5), (5, oc_callv l B 4 m_Na_claim 1 8), (8, oc_aload 1 9), (9, oc_getf B 4 0 12), (12, oc_ci (0) 13), (13, oc_aload 0 14), (14, oc_getf B 4 0 17), (17, oc_ci (0) 18), (18, oc_aload 0 19), (19, oc_getf B 4 1 22), (22, oc_copy B 25), (25, oc_vret)]
set_option maxRecDepth 20000 in
theorem ok_Na_copy {l : Launch} {B : zd_B} (hG : zd_G B) (hl : l.stackTraces = false) : ∀ q ∈ cd_Na_copy l B, zd_ok l B m_Na_copy q.1 q.2 := by
  unfold cd_Na_copy
  refine zd_ac (ok_aload_n (l := l) (B := B) (y := m_Na_copy) (pc := 0) (k := 0) rfl (zd_dr dc_Na_copy 0 rfl)) ?_
  refine zd_ac (ok_aload_n (l := l) (B := B) (y := m_Na_copy) (pc := 1) (k := 1) rfl (zd_dr dc_Na_copy 1 rfl)) ?_
  refine zd_ac (ok_getf (l := l) (B := B) (y := m_Na_copy) (pc := 2) hG (C := zR4) (T := zT4) (N := 2) (ci := 4) (k := 1) rfl zl4 (by decide) (List.mem_of_getElem? (i := 98) (by decide +kernel)) (zd_dr dc_Na_copy 2 rfl)) ?_
  refine zd_ac (ok_callv (l := l) (B := B) (y := m_Na_copy) (pc := 5) hG (ci := 4) rfl cf_Na_copy_Na_claim rfl (List.mem_of_getElem? (i := 441) (by decide +kernel)) (List.mem_of_getElem? (i := 442) (by decide +kernel)) (List.mem_of_getElem? (i := 443) (by decide +kernel)) (zd_dr dc_Na_copy 3 rfl)) ?_
  refine zd_ac (ok_aload_n (l := l) (B := B) (y := m_Na_copy) (pc := 8) (k := 1) rfl (zd_dr dc_Na_copy 4 rfl)) ?_
  refine zd_ac (ok_getf (l := l) (B := B) (y := m_Na_copy) (pc := 9) hG (C := zR4) (T := zT4) (N := 2) (ci := 4) (k := 0) rfl zl4 (by decide) (List.mem_of_getElem? (i := 96) (by decide +kernel)) (zd_dr dc_Na_copy 5 rfl)) ?_
  refine zd_ac (ok_iconst (l := l) (B := B) (y := m_Na_copy) (pc := 12) (n := (0)) (zd_dr dc_Na_copy 6 rfl) rfl) ?_
  refine zd_ac (ok_aload_n (l := l) (B := B) (y := m_Na_copy) (pc := 13) (k := 0) rfl (zd_dr dc_Na_copy 7 rfl)) ?_
  refine zd_ac (ok_getf (l := l) (B := B) (y := m_Na_copy) (pc := 14) hG (C := zR4) (T := zT4) (N := 2) (ci := 4) (k := 0) rfl zl4 (by decide) (List.mem_of_getElem? (i := 96) (by decide +kernel)) (zd_dr dc_Na_copy 8 rfl)) ?_
  refine zd_ac (ok_iconst (l := l) (B := B) (y := m_Na_copy) (pc := 17) (n := (0)) (zd_dr dc_Na_copy 9 rfl) rfl) ?_
  refine zd_ac (ok_aload_n (l := l) (B := B) (y := m_Na_copy) (pc := 18) (k := 0) rfl (zd_dr dc_Na_copy 10 rfl)) ?_
  refine zd_ac (ok_getf (l := l) (B := B) (y := m_Na_copy) (pc := 19) hG (C := zR4) (T := zT4) (N := 2) (ci := 4) (k := 1) rfl zl4 (by decide) (List.mem_of_getElem? (i := 98) (by decide +kernel)) (zd_dr dc_Na_copy 11 rfl)) ?_
  refine zd_ac (ok_copy (l := l) (B := B) (y := m_Na_copy) (pc := 22) hG (List.mem_of_getElem? (i := 486) (by decide +kernel)) (List.mem_of_getElem? (i := 488) (by decide +kernel)) (List.mem_of_getElem? (i := 487) (by decide +kernel)) (List.mem_of_getElem? (i := 71) (by decide +kernel)) (by decide) (by decide) (zd_dr dc_Na_copy 12 rfl)) ?_
  refine zd_ac (ok_vret (l := l) (B := B) (y := m_Na_copy) (pc := 25) rfl (zd_dr dc_Na_copy 13 rfl)) ?_
  exact zd_an
def dl_Na_become : List (Nat × Instr × Nat) := [(0, .lload_n 1, 1), (1, .lconst 0, 1), (2, .lcmp, 1), (3, .ifCond .le (8), 3), (6, .lload_n 1, 1), (7, .lneg, 1), (8, .goto (4), 3), (11, .lload_n 1, 1), (12, .lstore_n 3, 1), (13, .aload_n 0, 1), (14, .iconst (3), 1), (15, .invokevirtual 35, 3), (18, .iconst (0), 1), (19, .istore 5, 2), (21, .iload 5, 2), (23, .iconst (3), 1), (24, .if_icmp .ge (29), 3), (27, .aload_n 0, 1), (28, .getfield 9, 3), (31, .iload 5, 2), (33, .lload_n 3, 1), (34, .ldc2_w 45, 3), (37, .lrem, 1), (38, .lneg, 1), (39, .l2i, 1), (40, .iastore, 1), (41, .lload_n 3, 1), (42, .ldc2_w 45, 3), (45, .ldiv, 1), (46, .lstore_n 3, 1), (47, .iinc 5 (1), 3), (50, .goto (-29), 3), (53, .aload_n 0, 1), (54, .invokevirtual 47, 3), (57, .return_, 1)]
theorem dc_Na_become : ∀ q ∈ dl_Na_become, decode (zd_yb m_Na_become) q.1 = .ok q.2 := by decide +kernel
def cd_Na_become (l : Launch) (B : zd_B) : List (Nat × zd_S) := [(0, oc_lload 1 1), (1, oc_cl 0 2), (2, oc_lcmp 3), (3, oc_if_le 11 6), (6, oc_lload 1 7), (7, oc_lneg 8), (8, oc_goto 12), (11, oc_lload 1 12), (12, oc_lstore 3 13), (13, oc_aload 0 14), (14, oc_ci (3) 15), (15, oc_callv l B 4 m_Na_claim 1 18), (18, oc_ci (0) 19), (19, oc_istore 5 21), (21, oc_iload 5 23), (23, oc_ci (3) 24), (24, oc_icmp_ge 53 27), (27, oc_aload 0 28), (28, oc_getf B 4 0 31), (31, oc_iload 5 33), (33, oc_lload 3 34), (34, oc_cl (1000000000) 37), (37, oc_lrem 38), (38, oc_lneg 39), (39, oc_l2i 40), (40, oc_iastore B 41), (41, oc_lload 3 42), (42, oc_cl (1000000000) 45), (45, oc_ldiv 46), (46, oc_lstore 3 47), (47, oc_iinc 5 (1) 50), (50, oc_goto 21), (53, oc_aload 0 54), (54, oc_callv l B 4 m_Na_trim 0 57), (57, oc_vret)]
set_option maxRecDepth 20000 in
theorem ok_Na_become {l : Launch} {B : zd_B} (hG : zd_G B) (hl : l.stackTraces = false) : ∀ q ∈ cd_Na_become l B, zd_ok l B m_Na_become q.1 q.2 := by
  unfold cd_Na_become
  refine zd_ac (ok_lload_n (l := l) (B := B) (y := m_Na_become) (pc := 0) (k := 1) rfl (zd_dr dc_Na_become 0 rfl)) ?_
  refine zd_ac (ok_lconst (l := l) (B := B) (y := m_Na_become) (pc := 1) (n := 0) (zd_dr dc_Na_become 1 rfl) rfl) ?_
  refine zd_ac (ok_lcmp (l := l) (B := B) (y := m_Na_become) (pc := 2) (zd_dr dc_Na_become 2 rfl)) ?_
  refine zd_ac (ok_if_le (l := l) (B := B) (y := m_Na_become) (pc := 3) (zd_dr dc_Na_become 3 rfl) (by decide)) ?_
  refine zd_ac (ok_lload_n (l := l) (B := B) (y := m_Na_become) (pc := 6) (k := 1) rfl (zd_dr dc_Na_become 4 rfl)) ?_
  refine zd_ac (ok_lneg (l := l) (B := B) (y := m_Na_become) (pc := 7) (zd_dr dc_Na_become 5 rfl)) ?_
  refine zd_ac (ok_goto (l := l) (B := B) (y := m_Na_become) (pc := 8) (zd_dr dc_Na_become 6 rfl) (by decide)) ?_
  refine zd_ac (ok_lload_n (l := l) (B := B) (y := m_Na_become) (pc := 11) (k := 1) rfl (zd_dr dc_Na_become 7 rfl)) ?_
  refine zd_ac (ok_lstore_n (l := l) (B := B) (y := m_Na_become) (pc := 12) (k := 3) rfl (zd_dr dc_Na_become 8 rfl) (by decide)) ?_
  refine zd_ac (ok_aload_n (l := l) (B := B) (y := m_Na_become) (pc := 13) (k := 0) rfl (zd_dr dc_Na_become 9 rfl)) ?_
  refine zd_ac (ok_iconst (l := l) (B := B) (y := m_Na_become) (pc := 14) (n := (3)) (zd_dr dc_Na_become 10 rfl) rfl) ?_
  refine zd_ac (ok_callv (l := l) (B := B) (y := m_Na_become) (pc := 15) hG (ci := 4) rfl cf_Na_become_Na_claim rfl (List.mem_of_getElem? (i := 441) (by decide +kernel)) (List.mem_of_getElem? (i := 442) (by decide +kernel)) (List.mem_of_getElem? (i := 443) (by decide +kernel)) (zd_dr dc_Na_become 11 rfl)) ?_
  refine zd_ac (ok_iconst (l := l) (B := B) (y := m_Na_become) (pc := 18) (n := (0)) (zd_dr dc_Na_become 12 rfl) rfl) ?_
  refine zd_ac (ok_istore (l := l) (B := B) (y := m_Na_become) (pc := 19) (zd_dr dc_Na_become 13 rfl) (by decide)) ?_
  refine zd_ac (ok_iload (l := l) (B := B) (y := m_Na_become) (pc := 21) (zd_dr dc_Na_become 14 rfl)) ?_
  refine zd_ac (ok_iconst (l := l) (B := B) (y := m_Na_become) (pc := 23) (n := (3)) (zd_dr dc_Na_become 15 rfl) rfl) ?_
  refine zd_ac (ok_icmp_ge (l := l) (B := B) (y := m_Na_become) (pc := 24) (zd_dr dc_Na_become 16 rfl) (by decide)) ?_
  refine zd_ac (ok_aload_n (l := l) (B := B) (y := m_Na_become) (pc := 27) (k := 0) rfl (zd_dr dc_Na_become 17 rfl)) ?_
  refine zd_ac (ok_getf (l := l) (B := B) (y := m_Na_become) (pc := 28) hG (C := zR4) (T := zT4) (N := 2) (ci := 4) (k := 0) rfl zl4 (by decide) (List.mem_of_getElem? (i := 96) (by decide +kernel)) (zd_dr dc_Na_become 18 rfl)) ?_
  refine zd_ac (ok_iload (l := l) (B := B) (y := m_Na_become) (pc := 31) (zd_dr dc_Na_become 19 rfl)) ?_
  refine zd_ac (ok_lload_n (l := l) (B := B) (y := m_Na_become) (pc := 33) (k := 3) rfl (zd_dr dc_Na_become 20 rfl)) ?_
  refine zd_ac (ok_ldc2 (l := l) (B := B) (y := m_Na_become) (pc := 34) hG (List.mem_of_getElem? (i := 504) (by decide +kernel)) (zd_dr dc_Na_become 21 rfl)) ?_
  refine zd_ac (ok_lrem (l := l) (B := B) (y := m_Na_become) (pc := 37) (zd_dr dc_Na_become 22 rfl)) ?_
  refine zd_ac (ok_lneg (l := l) (B := B) (y := m_Na_become) (pc := 38) (zd_dr dc_Na_become 23 rfl)) ?_
  refine zd_ac (ok_l2i (l := l) (B := B) (y := m_Na_become) (pc := 39) (zd_dr dc_Na_become 24 rfl)) ?_
  refine zd_ac (ok_iastore (l := l) (B := B) (y := m_Na_become) (pc := 40) hG (zd_dr dc_Na_become 25 rfl)) ?_
  refine zd_ac (ok_lload_n (l := l) (B := B) (y := m_Na_become) (pc := 41) (k := 3) rfl (zd_dr dc_Na_become 26 rfl)) ?_
  refine zd_ac (ok_ldc2 (l := l) (B := B) (y := m_Na_become) (pc := 42) hG (List.mem_of_getElem? (i := 504) (by decide +kernel)) (zd_dr dc_Na_become 27 rfl)) ?_
  refine zd_ac (ok_ldiv (l := l) (B := B) (y := m_Na_become) (pc := 45) (zd_dr dc_Na_become 28 rfl)) ?_
  refine zd_ac (ok_lstore_n (l := l) (B := B) (y := m_Na_become) (pc := 46) (k := 3) rfl (zd_dr dc_Na_become 29 rfl) (by decide)) ?_
  refine zd_ac (ok_iinc (l := l) (B := B) (y := m_Na_become) (pc := 47) (zd_dr dc_Na_become 30 rfl) (by decide) rfl) ?_
  refine zd_ac (ok_goto (l := l) (B := B) (y := m_Na_become) (pc := 50) (zd_dr dc_Na_become 31 rfl) (by decide)) ?_
  refine zd_ac (ok_aload_n (l := l) (B := B) (y := m_Na_become) (pc := 53) (k := 0) rfl (zd_dr dc_Na_become 32 rfl)) ?_
  refine zd_ac (ok_callv (l := l) (B := B) (y := m_Na_become) (pc := 54) hG (ci := 4) rfl cf_Na_become_Na_trim rfl (List.mem_of_getElem? (i := 505) (by decide +kernel)) (List.mem_of_getElem? (i := 455) (by decide +kernel)) (List.mem_of_getElem? (i := 456) (by decide +kernel)) (zd_dr dc_Na_become 33 rfl)) ?_
  refine zd_ac (ok_vret (l := l) (B := B) (y := m_Na_become) (pc := 57) rfl (zd_dr dc_Na_become 34 rfl)) ?_
  exact zd_an
def dl_Na_openDigits : List (Nat × Instr × Nat) := [(0, .aload_n 0, 1), (1, .iload_n 1, 1), (2, .bipush (9), 2), (4, .iadd, 1), (5, .iconst (1), 1), (6, .isub, 1), (7, .bipush (9), 2), (9, .idiv, 1), (10, .invokevirtual 35, 3), (13, .iconst (0), 1), (14, .istore_n 2, 1), (15, .iload_n 2, 1), (16, .aload_n 0, 1), (17, .getfield 15, 3), (20, .if_icmp .ge (16), 3), (23, .aload_n 0, 1), (24, .getfield 9, 3), (27, .iload_n 2, 1), (28, .iconst (0), 1), (29, .iastore, 1), (30, .iinc 2 (1), 3), (33, .goto (-18), 3), (36, .return_, 1)]
theorem dc_Na_openDigits : ∀ q ∈ dl_Na_openDigits, decode (zd_yb m_Na_openDigits) q.1 = .ok q.2 := by decide +kernel
def cd_Na_openDigits (l : Launch) (B : zd_B) : List (Nat × zd_S) := [(0, oc_aload 0 1), (1, oc_iload 1 2), (2, oc_ci (9) 4), (4, oc_iadd 5), (5, oc_ci (1) 6), (6, oc_isub 7), (7, oc_ci (9) 9), (9, oc_idiv 10), (10, oc_callv l B 4 m_Na_claim 1 13), (13, oc_ci (0) 14), (14, oc_istore 2 15), (15, oc_iload 2 16), (16, oc_aload 0 17), (17, oc_getf B 4 1 20), (20, oc_icmp_ge 36 23), (23, oc_aload 0 24), (24, oc_getf B 4 0 27), (27, oc_iload 2 28), (28, oc_ci (0) 29), (29, oc_iastore B 30), (30, oc_iinc 2 (1) 33), (33, oc_goto 15), (36, oc_vret)]
set_option maxRecDepth 20000 in
theorem ok_Na_openDigits {l : Launch} {B : zd_B} (hG : zd_G B) (hl : l.stackTraces = false) : ∀ q ∈ cd_Na_openDigits l B, zd_ok l B m_Na_openDigits q.1 q.2 := by
  unfold cd_Na_openDigits
  refine zd_ac (ok_aload_n (l := l) (B := B) (y := m_Na_openDigits) (pc := 0) (k := 0) rfl (zd_dr dc_Na_openDigits 0 rfl)) ?_
  refine zd_ac (ok_iload_n (l := l) (B := B) (y := m_Na_openDigits) (pc := 1) (k := 1) rfl (zd_dr dc_Na_openDigits 1 rfl)) ?_
  refine zd_ac (ok_bipush (l := l) (B := B) (y := m_Na_openDigits) (pc := 2) (n := (9)) (zd_dr dc_Na_openDigits 2 rfl) rfl) ?_
  refine zd_ac (ok_iadd (l := l) (B := B) (y := m_Na_openDigits) (pc := 4) (zd_dr dc_Na_openDigits 3 rfl)) ?_
  refine zd_ac (ok_iconst (l := l) (B := B) (y := m_Na_openDigits) (pc := 5) (n := (1)) (zd_dr dc_Na_openDigits 4 rfl) rfl) ?_
  refine zd_ac (ok_isub (l := l) (B := B) (y := m_Na_openDigits) (pc := 6) (zd_dr dc_Na_openDigits 5 rfl)) ?_
  refine zd_ac (ok_bipush (l := l) (B := B) (y := m_Na_openDigits) (pc := 7) (n := (9)) (zd_dr dc_Na_openDigits 6 rfl) rfl) ?_
  refine zd_ac (ok_idiv (l := l) (B := B) (y := m_Na_openDigits) (pc := 9) (zd_dr dc_Na_openDigits 7 rfl)) ?_
  refine zd_ac (ok_callv (l := l) (B := B) (y := m_Na_openDigits) (pc := 10) hG (ci := 4) rfl cf_Na_openDigits_Na_claim rfl (List.mem_of_getElem? (i := 441) (by decide +kernel)) (List.mem_of_getElem? (i := 442) (by decide +kernel)) (List.mem_of_getElem? (i := 443) (by decide +kernel)) (zd_dr dc_Na_openDigits 8 rfl)) ?_
  refine zd_ac (ok_iconst (l := l) (B := B) (y := m_Na_openDigits) (pc := 13) (n := (0)) (zd_dr dc_Na_openDigits 9 rfl) rfl) ?_
  refine zd_ac (ok_istore_n (l := l) (B := B) (y := m_Na_openDigits) (pc := 14) (k := 2) rfl (zd_dr dc_Na_openDigits 10 rfl) (by decide)) ?_
  refine zd_ac (ok_iload_n (l := l) (B := B) (y := m_Na_openDigits) (pc := 15) (k := 2) rfl (zd_dr dc_Na_openDigits 11 rfl)) ?_
  refine zd_ac (ok_aload_n (l := l) (B := B) (y := m_Na_openDigits) (pc := 16) (k := 0) rfl (zd_dr dc_Na_openDigits 12 rfl)) ?_
  refine zd_ac (ok_getf (l := l) (B := B) (y := m_Na_openDigits) (pc := 17) hG (C := zR4) (T := zT4) (N := 2) (ci := 4) (k := 1) rfl zl4 (by decide) (List.mem_of_getElem? (i := 98) (by decide +kernel)) (zd_dr dc_Na_openDigits 13 rfl)) ?_
  refine zd_ac (ok_icmp_ge (l := l) (B := B) (y := m_Na_openDigits) (pc := 20) (zd_dr dc_Na_openDigits 14 rfl) (by decide)) ?_
  refine zd_ac (ok_aload_n (l := l) (B := B) (y := m_Na_openDigits) (pc := 23) (k := 0) rfl (zd_dr dc_Na_openDigits 15 rfl)) ?_
  refine zd_ac (ok_getf (l := l) (B := B) (y := m_Na_openDigits) (pc := 24) hG (C := zR4) (T := zT4) (N := 2) (ci := 4) (k := 0) rfl zl4 (by decide) (List.mem_of_getElem? (i := 96) (by decide +kernel)) (zd_dr dc_Na_openDigits 16 rfl)) ?_
  refine zd_ac (ok_iload_n (l := l) (B := B) (y := m_Na_openDigits) (pc := 27) (k := 2) rfl (zd_dr dc_Na_openDigits 17 rfl)) ?_
  refine zd_ac (ok_iconst (l := l) (B := B) (y := m_Na_openDigits) (pc := 28) (n := (0)) (zd_dr dc_Na_openDigits 18 rfl) rfl) ?_
  refine zd_ac (ok_iastore (l := l) (B := B) (y := m_Na_openDigits) (pc := 29) hG (zd_dr dc_Na_openDigits 19 rfl)) ?_
  refine zd_ac (ok_iinc (l := l) (B := B) (y := m_Na_openDigits) (pc := 30) (zd_dr dc_Na_openDigits 20 rfl) (by decide) rfl) ?_
  refine zd_ac (ok_goto (l := l) (B := B) (y := m_Na_openDigits) (pc := 33) (zd_dr dc_Na_openDigits 21 rfl) (by decide)) ?_
  refine zd_ac (ok_vret (l := l) (B := B) (y := m_Na_openDigits) (pc := 36) rfl (zd_dr dc_Na_openDigits 22 rfl)) ?_
  exact zd_an
def dl_Na_setDigit : List (Nat × Instr × Nat) := [(0, .iload_n 1, 1), (1, .ifCond .lt (36), 3), (4, .iload_n 1, 1), (5, .bipush (9), 2), (7, .idiv, 1), (8, .aload_n 0, 1), (9, .getfield 15, 3), (12, .if_icmp .ge (25), 3), (15, .aload_n 0, 1), (16, .getfield 9, 3), (19, .iload_n 1, 1), (20, .bipush (9), 2), (22, .idiv, 1), (23, .dup2, 1), (24, .iaload, 1), (25, .iload_n 2, 1), (26, .getstatic 19, 3), (29, .iload_n 1, 1), (30, .bipush (9), 2), (32, .irem, 1), (33, .iaload, 1), (34, .imul, 1), (35, .iadd, 1), (36, .iastore, 1), (37, .return_, 1)]
theorem dc_Na_setDigit : ∀ q ∈ dl_Na_setDigit, decode (zd_yb m_Na_setDigit) q.1 = .ok q.2 := by decide +kernel
def cd_Na_setDigit (l : Launch) (B : zd_B) : List (Nat × zd_S) := [(0, oc_iload 1 1), (1, oc_if_lt 37 4), (4, oc_iload 1 5), (5, oc_ci (9) 7), (7, oc_idiv 8), (8, oc_aload 0 9), (9, oc_getf B 4 1 12), (12, oc_icmp_ge 37 15), (15, oc_aload 0 16), (16, oc_getf B 4 0 19), (19, oc_iload 1 20), (20, oc_ci (9) 22), (22, oc_idiv 23), (23, oc_dup2 24), (24, oc_iaload B 25), (25, oc_iload 2 26), (26, oc_tens B 29), (29, oc_iload 1 30), (30, oc_ci (9) 32), (32, oc_irem 33), (33, oc_iaload B 34), (34, oc_imul 35), (35, oc_iadd 36), (36, oc_iastore B 37), (37, oc_vret)]
set_option maxRecDepth 20000 in
theorem ok_Na_setDigit {l : Launch} {B : zd_B} (hG : zd_G B) (hl : l.stackTraces = false) : ∀ q ∈ cd_Na_setDigit l B, zd_ok l B m_Na_setDigit q.1 q.2 := by
  unfold cd_Na_setDigit
  refine zd_ac (ok_iload_n (l := l) (B := B) (y := m_Na_setDigit) (pc := 0) (k := 1) rfl (zd_dr dc_Na_setDigit 0 rfl)) ?_
  refine zd_ac (ok_if_lt (l := l) (B := B) (y := m_Na_setDigit) (pc := 1) (zd_dr dc_Na_setDigit 1 rfl) (by decide)) ?_
  refine zd_ac (ok_iload_n (l := l) (B := B) (y := m_Na_setDigit) (pc := 4) (k := 1) rfl (zd_dr dc_Na_setDigit 2 rfl)) ?_
  refine zd_ac (ok_bipush (l := l) (B := B) (y := m_Na_setDigit) (pc := 5) (n := (9)) (zd_dr dc_Na_setDigit 3 rfl) rfl) ?_
  refine zd_ac (ok_idiv (l := l) (B := B) (y := m_Na_setDigit) (pc := 7) (zd_dr dc_Na_setDigit 4 rfl)) ?_
  refine zd_ac (ok_aload_n (l := l) (B := B) (y := m_Na_setDigit) (pc := 8) (k := 0) rfl (zd_dr dc_Na_setDigit 5 rfl)) ?_
  refine zd_ac (ok_getf (l := l) (B := B) (y := m_Na_setDigit) (pc := 9) hG (C := zR4) (T := zT4) (N := 2) (ci := 4) (k := 1) rfl zl4 (by decide) (List.mem_of_getElem? (i := 98) (by decide +kernel)) (zd_dr dc_Na_setDigit 6 rfl)) ?_
  refine zd_ac (ok_icmp_ge (l := l) (B := B) (y := m_Na_setDigit) (pc := 12) (zd_dr dc_Na_setDigit 7 rfl) (by decide)) ?_
  refine zd_ac (ok_aload_n (l := l) (B := B) (y := m_Na_setDigit) (pc := 15) (k := 0) rfl (zd_dr dc_Na_setDigit 8 rfl)) ?_
  refine zd_ac (ok_getf (l := l) (B := B) (y := m_Na_setDigit) (pc := 16) hG (C := zR4) (T := zT4) (N := 2) (ci := 4) (k := 0) rfl zl4 (by decide) (List.mem_of_getElem? (i := 96) (by decide +kernel)) (zd_dr dc_Na_setDigit 9 rfl)) ?_
  refine zd_ac (ok_iload_n (l := l) (B := B) (y := m_Na_setDigit) (pc := 19) (k := 1) rfl (zd_dr dc_Na_setDigit 10 rfl)) ?_
  refine zd_ac (ok_bipush (l := l) (B := B) (y := m_Na_setDigit) (pc := 20) (n := (9)) (zd_dr dc_Na_setDigit 11 rfl) rfl) ?_
  refine zd_ac (ok_idiv (l := l) (B := B) (y := m_Na_setDigit) (pc := 22) (zd_dr dc_Na_setDigit 12 rfl)) ?_
  refine zd_ac (ok_dup2 (l := l) (B := B) (y := m_Na_setDigit) (pc := 23) (zd_dr dc_Na_setDigit 13 rfl)) ?_
  refine zd_ac (ok_iaload (l := l) (B := B) (y := m_Na_setDigit) (pc := 24) hG (zd_dr dc_Na_setDigit 14 rfl)) ?_
  refine zd_ac (ok_iload_n (l := l) (B := B) (y := m_Na_setDigit) (pc := 25) (k := 2) rfl (zd_dr dc_Na_setDigit 15 rfl)) ?_
  refine zd_ac (ok_tensN (l := l) (B := B) (y := m_Na_setDigit) (pc := 26) (host := "DecimalDesk") hG (List.mem_of_getElem? (i := 452) (by decide +kernel)) (zd_dr dc_Na_setDigit 16 rfl)) ?_
  refine zd_ac (ok_iload_n (l := l) (B := B) (y := m_Na_setDigit) (pc := 29) (k := 1) rfl (zd_dr dc_Na_setDigit 17 rfl)) ?_
  refine zd_ac (ok_bipush (l := l) (B := B) (y := m_Na_setDigit) (pc := 30) (n := (9)) (zd_dr dc_Na_setDigit 18 rfl) rfl) ?_
  refine zd_ac (ok_irem (l := l) (B := B) (y := m_Na_setDigit) (pc := 32) (zd_dr dc_Na_setDigit 19 rfl)) ?_
  refine zd_ac (ok_iaload (l := l) (B := B) (y := m_Na_setDigit) (pc := 33) hG (zd_dr dc_Na_setDigit 20 rfl)) ?_
  refine zd_ac (ok_imul (l := l) (B := B) (y := m_Na_setDigit) (pc := 34) (zd_dr dc_Na_setDigit 21 rfl)) ?_
  refine zd_ac (ok_iadd (l := l) (B := B) (y := m_Na_setDigit) (pc := 35) (zd_dr dc_Na_setDigit 22 rfl)) ?_
  refine zd_ac (ok_iastore (l := l) (B := B) (y := m_Na_setDigit) (pc := 36) hG (zd_dr dc_Na_setDigit 23 rfl)) ?_
  refine zd_ac (ok_vret (l := l) (B := B) (y := m_Na_setDigit) (pc := 37) rfl (zd_dr dc_Na_setDigit 24 rfl)) ?_
  exact zd_an
def dl_Na_becomeProduct : List (Nat × Instr × Nat) := [(0, .aload_n 0, 1), (1, .aload_n 1, 1), (2, .getfield 15, 3), (5, .aload_n 2, 1), (6, .getfield 15, 3), (9, .iadd, 1), (10, .invokevirtual 35, 3), (13, .iconst (0), 1), (14, .istore_n 3, 1), (15, .iload_n 3, 1), (16, .aload_n 0, 1), (17, .getfield 15, 3), (20, .if_icmp .ge (16), 3), (23, .aload_n 0, 1), (24, .getfield 9, 3), (27, .iload_n 3, 1), (28, .iconst (0), 1), (29, .iastore, 1), (30, .iinc 3 (1), 3), (33, .goto (-18), 3), (36, .iconst (0), 1), (37, .istore_n 3, 1), (38, .iload_n 3, 1), (39, .aload_n 1, 1), (40, .getfield 15, 3), (43, .if_icmp .ge (107), 3), (46, .aload_n 1, 1), (47, .getfield 9, 3), (50, .iload_n 3, 1), (51, .iaload, 1), (52, .i2l, 1), (53, .lstore 4, 2), (55, .lconst 0, 1), (56, .lstore 6, 2), (58, .iconst (0), 1), (59, .istore 8, 2), (61, .iload 8, 2), (63, .aload_n 2, 1), (64, .getfield 15, 3), (67, .if_icmp .ge (63), 3), (70, .lload 4, 2), (72, .aload_n 2, 1), (73, .getfield 9, 3), (76, .iload 8, 2), (78, .iaload, 1), (79, .i2l, 1), (80, .lmul, 1), (81, .aload_n 0, 1), (82, .getfield 9, 3), (85, .iload_n 3, 1), (86, .iload 8, 2), (88, .iadd, 1), (89, .iaload, 1), (90, .i2l, 1), (91, .ladd, 1), (92, .lload 6, 2), (94, .ladd, 1), (95, .lstore 9, 2), (97, .lload 9, 2), (99, .ldc2_w 45, 3), (102, .ldiv, 1), (103, .lstore 6, 2), (105, .aload_n 0, 1), (106, .getfield 9, 3), (109, .iload_n 3, 1), (110, .iload 8, 2), (112, .iadd, 1), (113, .lload 9, 2), (115, .lload 6, 2), (117, .ldc2_w 45, 3), (120, .lmul, 1), (121, .lsub, 1), (122, .l2i, 1), (123, .iastore, 1), (124, .iinc 8 (1), 3), (127, .goto (-66), 3), (130, .aload_n 0, 1), (131, .getfield 9, 3), (134, .iload_n 3, 1), (135, .aload_n 2, 1), (136, .getfield 15, 3), (139, .iadd, 1), (140, .lload 6, 2), (142, .l2i, 1), (143, .iastore, 1), (144, .iinc 3 (1), 3), (147, .goto (-109), 3), (150, .aload_n 0, 1), (151, .invokevirtual 47, 3), (154, .return_, 1)]
theorem dc_Na_becomeProduct : ∀ q ∈ dl_Na_becomeProduct, decode (zd_yb m_Na_becomeProduct) q.1 = .ok q.2 := by decide +kernel
def cd_Na_becomeProduct (l : Launch) (B : zd_B) : List (Nat × zd_S) := [(0, oc_aload 0 1), (1, oc_aload 1 2), (2, oc_getf B 4 1 5), (5, oc_aload 2 6), (6, oc_getf B 4 1 9), (9, oc_iadd 10), (10, oc_callv l B 4 m_Na_claim 1 13), (13, oc_ci (0) 14), (14, oc_istore 3 15), (15, oc_iload 3 16), (16, oc_aload 0 17), (17, oc_getf B 4 1 20), (20, oc_icmp_ge 36 23), (23, oc_aload 0 24), (24, oc_getf B 4 0 27), (27, oc_iload 3 28), (28, oc_ci (0) 29), (29, oc_iastore B 30), (30, oc_iinc 3 (1) 33), (33, oc_goto 15), (36, oc_ci (0) 37), (37, oc_istore 3 38), (38, oc_iload 3 39), (39, oc_aload 1 40), (40, oc_getf B 4 1 43), (43, oc_icmp_ge 150 46), (46, oc_aload 1 47), (47, oc_getf B 4 0 50), (50, oc_iload 3 51), (51, oc_iaload B 52), (52, oc_i2l 53), (53, oc_lstore 4 55), (55, oc_cl 0 56), (56, oc_lstore 6 58), (58, oc_ci (0) 59), (59, oc_istore 8 61), (61, oc_iload 8 63), (63, oc_aload 2 64), (64, oc_getf B 4 1 67), (67, oc_icmp_ge 130 70), (70, oc_lload 4 72), (72, oc_aload 2 73), (73, oc_getf B 4 0 76), (76, oc_iload 8 78), (78, oc_iaload B 79), (79, oc_i2l 80), (80, oc_lmul 81), (81, oc_aload 0 82), (82, oc_getf B 4 0 85), (85, oc_iload 3 86), (86, oc_iload 8 88), (88, oc_iadd 89), (89, oc_iaload B 90), (90, oc_i2l 91), (91, oc_ladd 92), (92, oc_lload 6 94), (94, oc_ladd 95), (95, oc_lstore 9 97), (97, oc_lload 9 99), (99, oc_cl (1000000000) 102), (102, oc_ldiv 103), (103, oc_lstore 6 105), (105, oc_aload 0 106), (106, oc_getf B 4 0 109), (109, oc_iload 3 110), (110, oc_iload 8 112), (112, oc_iadd 113), (113, oc_lload 9 115), (115, oc_lload 6 117), (117, oc_cl (1000000000) 120), (120, oc_lmul 121), (121, oc_lsub 122), (122, oc_l2i 123), (123, oc_iastore B 124), (124, oc_iinc 8 (1) 127), (127, oc_goto 61), (130, oc_aload 0 131), (131, oc_getf B 4 0 134), (134, oc_iload 3 135), (135, oc_aload 2 136), (136, oc_getf B 4 1 139), (139, oc_iadd 140), (140, oc_lload 6 142), (142, oc_l2i 143), (143, oc_iastore B 144), (144, oc_iinc 3 (1) 147), (147, oc_goto 38), (150, oc_aload 0 151), (151, oc_callv l B 4 m_Na_trim 0 154), (154, oc_vret)]
set_option maxRecDepth 20000 in
theorem ok_Na_becomeProduct {l : Launch} {B : zd_B} (hG : zd_G B) (hl : l.stackTraces = false) : ∀ q ∈ cd_Na_becomeProduct l B, zd_ok l B m_Na_becomeProduct q.1 q.2 := by
  unfold cd_Na_becomeProduct
  refine zd_ac (ok_aload_n (l := l) (B := B) (y := m_Na_becomeProduct) (pc := 0) (k := 0) rfl (zd_dr dc_Na_becomeProduct 0 rfl)) ?_
  refine zd_ac (ok_aload_n (l := l) (B := B) (y := m_Na_becomeProduct) (pc := 1) (k := 1) rfl (zd_dr dc_Na_becomeProduct 1 rfl)) ?_
  refine zd_ac (ok_getf (l := l) (B := B) (y := m_Na_becomeProduct) (pc := 2) hG (C := zR4) (T := zT4) (N := 2) (ci := 4) (k := 1) rfl zl4 (by decide) (List.mem_of_getElem? (i := 98) (by decide +kernel)) (zd_dr dc_Na_becomeProduct 2 rfl)) ?_
  refine zd_ac (ok_aload_n (l := l) (B := B) (y := m_Na_becomeProduct) (pc := 5) (k := 2) rfl (zd_dr dc_Na_becomeProduct 3 rfl)) ?_
  refine zd_ac (ok_getf (l := l) (B := B) (y := m_Na_becomeProduct) (pc := 6) hG (C := zR4) (T := zT4) (N := 2) (ci := 4) (k := 1) rfl zl4 (by decide) (List.mem_of_getElem? (i := 98) (by decide +kernel)) (zd_dr dc_Na_becomeProduct 4 rfl)) ?_
  refine zd_ac (ok_iadd (l := l) (B := B) (y := m_Na_becomeProduct) (pc := 9) (zd_dr dc_Na_becomeProduct 5 rfl)) ?_
  refine zd_ac (ok_callv (l := l) (B := B) (y := m_Na_becomeProduct) (pc := 10) hG (ci := 4) rfl cf_Na_becomeProduct_Na_claim rfl (List.mem_of_getElem? (i := 441) (by decide +kernel)) (List.mem_of_getElem? (i := 442) (by decide +kernel)) (List.mem_of_getElem? (i := 443) (by decide +kernel)) (zd_dr dc_Na_becomeProduct 6 rfl)) ?_
  refine zd_ac (ok_iconst (l := l) (B := B) (y := m_Na_becomeProduct) (pc := 13) (n := (0)) (zd_dr dc_Na_becomeProduct 7 rfl) rfl) ?_
  refine zd_ac (ok_istore_n (l := l) (B := B) (y := m_Na_becomeProduct) (pc := 14) (k := 3) rfl (zd_dr dc_Na_becomeProduct 8 rfl) (by decide)) ?_
  refine zd_ac (ok_iload_n (l := l) (B := B) (y := m_Na_becomeProduct) (pc := 15) (k := 3) rfl (zd_dr dc_Na_becomeProduct 9 rfl)) ?_
  refine zd_ac (ok_aload_n (l := l) (B := B) (y := m_Na_becomeProduct) (pc := 16) (k := 0) rfl (zd_dr dc_Na_becomeProduct 10 rfl)) ?_
  refine zd_ac (ok_getf (l := l) (B := B) (y := m_Na_becomeProduct) (pc := 17) hG (C := zR4) (T := zT4) (N := 2) (ci := 4) (k := 1) rfl zl4 (by decide) (List.mem_of_getElem? (i := 98) (by decide +kernel)) (zd_dr dc_Na_becomeProduct 11 rfl)) ?_
  refine zd_ac (ok_icmp_ge (l := l) (B := B) (y := m_Na_becomeProduct) (pc := 20) (zd_dr dc_Na_becomeProduct 12 rfl) (by decide)) ?_
  refine zd_ac (ok_aload_n (l := l) (B := B) (y := m_Na_becomeProduct) (pc := 23) (k := 0) rfl (zd_dr dc_Na_becomeProduct 13 rfl)) ?_
  refine zd_ac (ok_getf (l := l) (B := B) (y := m_Na_becomeProduct) (pc := 24) hG (C := zR4) (T := zT4) (N := 2) (ci := 4) (k := 0) rfl zl4 (by decide) (List.mem_of_getElem? (i := 96) (by decide +kernel)) (zd_dr dc_Na_becomeProduct 14 rfl)) ?_
  refine zd_ac (ok_iload_n (l := l) (B := B) (y := m_Na_becomeProduct) (pc := 27) (k := 3) rfl (zd_dr dc_Na_becomeProduct 15 rfl)) ?_
  refine zd_ac (ok_iconst (l := l) (B := B) (y := m_Na_becomeProduct) (pc := 28) (n := (0)) (zd_dr dc_Na_becomeProduct 16 rfl) rfl) ?_
  refine zd_ac (ok_iastore (l := l) (B := B) (y := m_Na_becomeProduct) (pc := 29) hG (zd_dr dc_Na_becomeProduct 17 rfl)) ?_
  refine zd_ac (ok_iinc (l := l) (B := B) (y := m_Na_becomeProduct) (pc := 30) (zd_dr dc_Na_becomeProduct 18 rfl) (by decide) rfl) ?_
  refine zd_ac (ok_goto (l := l) (B := B) (y := m_Na_becomeProduct) (pc := 33) (zd_dr dc_Na_becomeProduct 19 rfl) (by decide)) ?_
  refine zd_ac (ok_iconst (l := l) (B := B) (y := m_Na_becomeProduct) (pc := 36) (n := (0)) (zd_dr dc_Na_becomeProduct 20 rfl) rfl) ?_
  refine zd_ac (ok_istore_n (l := l) (B := B) (y := m_Na_becomeProduct) (pc := 37) (k := 3) rfl (zd_dr dc_Na_becomeProduct 21 rfl) (by decide)) ?_
  refine zd_ac (ok_iload_n (l := l) (B := B) (y := m_Na_becomeProduct) (pc := 38) (k := 3) rfl (zd_dr dc_Na_becomeProduct 22 rfl)) ?_
  refine zd_ac (ok_aload_n (l := l) (B := B) (y := m_Na_becomeProduct) (pc := 39) (k := 1) rfl (zd_dr dc_Na_becomeProduct 23 rfl)) ?_
  refine zd_ac (ok_getf (l := l) (B := B) (y := m_Na_becomeProduct) (pc := 40) hG (C := zR4) (T := zT4) (N := 2) (ci := 4) (k := 1) rfl zl4 (by decide) (List.mem_of_getElem? (i := 98) (by decide +kernel)) (zd_dr dc_Na_becomeProduct 24 rfl)) ?_
  refine zd_ac (ok_icmp_ge (l := l) (B := B) (y := m_Na_becomeProduct) (pc := 43) (zd_dr dc_Na_becomeProduct 25 rfl) (by decide)) ?_
  refine zd_ac (ok_aload_n (l := l) (B := B) (y := m_Na_becomeProduct) (pc := 46) (k := 1) rfl (zd_dr dc_Na_becomeProduct 26 rfl)) ?_
  refine zd_ac (ok_getf (l := l) (B := B) (y := m_Na_becomeProduct) (pc := 47) hG (C := zR4) (T := zT4) (N := 2) (ci := 4) (k := 0) rfl zl4 (by decide) (List.mem_of_getElem? (i := 96) (by decide +kernel)) (zd_dr dc_Na_becomeProduct 27 rfl)) ?_
  refine zd_ac (ok_iload_n (l := l) (B := B) (y := m_Na_becomeProduct) (pc := 50) (k := 3) rfl (zd_dr dc_Na_becomeProduct 28 rfl)) ?_
  refine zd_ac (ok_iaload (l := l) (B := B) (y := m_Na_becomeProduct) (pc := 51) hG (zd_dr dc_Na_becomeProduct 29 rfl)) ?_
  refine zd_ac (ok_i2l (l := l) (B := B) (y := m_Na_becomeProduct) (pc := 52) (zd_dr dc_Na_becomeProduct 30 rfl)) ?_
  refine zd_ac (ok_lstore (l := l) (B := B) (y := m_Na_becomeProduct) (pc := 53) (zd_dr dc_Na_becomeProduct 31 rfl) (by decide)) ?_
  refine zd_ac (ok_lconst (l := l) (B := B) (y := m_Na_becomeProduct) (pc := 55) (n := 0) (zd_dr dc_Na_becomeProduct 32 rfl) rfl) ?_
  refine zd_ac (ok_lstore (l := l) (B := B) (y := m_Na_becomeProduct) (pc := 56) (zd_dr dc_Na_becomeProduct 33 rfl) (by decide)) ?_
  refine zd_ac (ok_iconst (l := l) (B := B) (y := m_Na_becomeProduct) (pc := 58) (n := (0)) (zd_dr dc_Na_becomeProduct 34 rfl) rfl) ?_
  refine zd_ac (ok_istore (l := l) (B := B) (y := m_Na_becomeProduct) (pc := 59) (zd_dr dc_Na_becomeProduct 35 rfl) (by decide)) ?_
  refine zd_ac (ok_iload (l := l) (B := B) (y := m_Na_becomeProduct) (pc := 61) (zd_dr dc_Na_becomeProduct 36 rfl)) ?_
  refine zd_ac (ok_aload_n (l := l) (B := B) (y := m_Na_becomeProduct) (pc := 63) (k := 2) rfl (zd_dr dc_Na_becomeProduct 37 rfl)) ?_
  refine zd_ac (ok_getf (l := l) (B := B) (y := m_Na_becomeProduct) (pc := 64) hG (C := zR4) (T := zT4) (N := 2) (ci := 4) (k := 1) rfl zl4 (by decide) (List.mem_of_getElem? (i := 98) (by decide +kernel)) (zd_dr dc_Na_becomeProduct 38 rfl)) ?_
  refine zd_ac (ok_icmp_ge (l := l) (B := B) (y := m_Na_becomeProduct) (pc := 67) (zd_dr dc_Na_becomeProduct 39 rfl) (by decide)) ?_
  refine zd_ac (ok_lload (l := l) (B := B) (y := m_Na_becomeProduct) (pc := 70) (zd_dr dc_Na_becomeProduct 40 rfl)) ?_
  refine zd_ac (ok_aload_n (l := l) (B := B) (y := m_Na_becomeProduct) (pc := 72) (k := 2) rfl (zd_dr dc_Na_becomeProduct 41 rfl)) ?_
  refine zd_ac (ok_getf (l := l) (B := B) (y := m_Na_becomeProduct) (pc := 73) hG (C := zR4) (T := zT4) (N := 2) (ci := 4) (k := 0) rfl zl4 (by decide) (List.mem_of_getElem? (i := 96) (by decide +kernel)) (zd_dr dc_Na_becomeProduct 42 rfl)) ?_
  refine zd_ac (ok_iload (l := l) (B := B) (y := m_Na_becomeProduct) (pc := 76) (zd_dr dc_Na_becomeProduct 43 rfl)) ?_
  refine zd_ac (ok_iaload (l := l) (B := B) (y := m_Na_becomeProduct) (pc := 78) hG (zd_dr dc_Na_becomeProduct 44 rfl)) ?_
  refine zd_ac (ok_i2l (l := l) (B := B) (y := m_Na_becomeProduct) (pc := 79) (zd_dr dc_Na_becomeProduct 45 rfl)) ?_
  refine zd_ac (ok_lmul (l := l) (B := B) (y := m_Na_becomeProduct) (pc := 80) (zd_dr dc_Na_becomeProduct 46 rfl)) ?_
  refine zd_ac (ok_aload_n (l := l) (B := B) (y := m_Na_becomeProduct) (pc := 81) (k := 0) rfl (zd_dr dc_Na_becomeProduct 47 rfl)) ?_
  refine zd_ac (ok_getf (l := l) (B := B) (y := m_Na_becomeProduct) (pc := 82) hG (C := zR4) (T := zT4) (N := 2) (ci := 4) (k := 0) rfl zl4 (by decide) (List.mem_of_getElem? (i := 96) (by decide +kernel)) (zd_dr dc_Na_becomeProduct 48 rfl)) ?_
  refine zd_ac (ok_iload_n (l := l) (B := B) (y := m_Na_becomeProduct) (pc := 85) (k := 3) rfl (zd_dr dc_Na_becomeProduct 49 rfl)) ?_
  refine zd_ac (ok_iload (l := l) (B := B) (y := m_Na_becomeProduct) (pc := 86) (zd_dr dc_Na_becomeProduct 50 rfl)) ?_
  refine zd_ac (ok_iadd (l := l) (B := B) (y := m_Na_becomeProduct) (pc := 88) (zd_dr dc_Na_becomeProduct 51 rfl)) ?_
  refine zd_ac (ok_iaload (l := l) (B := B) (y := m_Na_becomeProduct) (pc := 89) hG (zd_dr dc_Na_becomeProduct 52 rfl)) ?_
  refine zd_ac (ok_i2l (l := l) (B := B) (y := m_Na_becomeProduct) (pc := 90) (zd_dr dc_Na_becomeProduct 53 rfl)) ?_
  refine zd_ac (ok_ladd (l := l) (B := B) (y := m_Na_becomeProduct) (pc := 91) (zd_dr dc_Na_becomeProduct 54 rfl)) ?_
  refine zd_ac (ok_lload (l := l) (B := B) (y := m_Na_becomeProduct) (pc := 92) (zd_dr dc_Na_becomeProduct 55 rfl)) ?_
  refine zd_ac (ok_ladd (l := l) (B := B) (y := m_Na_becomeProduct) (pc := 94) (zd_dr dc_Na_becomeProduct 56 rfl)) ?_
  refine zd_ac (ok_lstore (l := l) (B := B) (y := m_Na_becomeProduct) (pc := 95) (zd_dr dc_Na_becomeProduct 57 rfl) (by decide)) ?_
  refine zd_ac (ok_lload (l := l) (B := B) (y := m_Na_becomeProduct) (pc := 97) (zd_dr dc_Na_becomeProduct 58 rfl)) ?_
  refine zd_ac (ok_ldc2 (l := l) (B := B) (y := m_Na_becomeProduct) (pc := 99) hG (List.mem_of_getElem? (i := 504) (by decide +kernel)) (zd_dr dc_Na_becomeProduct 59 rfl)) ?_
  refine zd_ac (ok_ldiv (l := l) (B := B) (y := m_Na_becomeProduct) (pc := 102) (zd_dr dc_Na_becomeProduct 60 rfl)) ?_
  refine zd_ac (ok_lstore (l := l) (B := B) (y := m_Na_becomeProduct) (pc := 103) (zd_dr dc_Na_becomeProduct 61 rfl) (by decide)) ?_
  refine zd_ac (ok_aload_n (l := l) (B := B) (y := m_Na_becomeProduct) (pc := 105) (k := 0) rfl (zd_dr dc_Na_becomeProduct 62 rfl)) ?_
  refine zd_ac (ok_getf (l := l) (B := B) (y := m_Na_becomeProduct) (pc := 106) hG (C := zR4) (T := zT4) (N := 2) (ci := 4) (k := 0) rfl zl4 (by decide) (List.mem_of_getElem? (i := 96) (by decide +kernel)) (zd_dr dc_Na_becomeProduct 63 rfl)) ?_
  refine zd_ac (ok_iload_n (l := l) (B := B) (y := m_Na_becomeProduct) (pc := 109) (k := 3) rfl (zd_dr dc_Na_becomeProduct 64 rfl)) ?_
  refine zd_ac (ok_iload (l := l) (B := B) (y := m_Na_becomeProduct) (pc := 110) (zd_dr dc_Na_becomeProduct 65 rfl)) ?_
  refine zd_ac (ok_iadd (l := l) (B := B) (y := m_Na_becomeProduct) (pc := 112) (zd_dr dc_Na_becomeProduct 66 rfl)) ?_
  refine zd_ac (ok_lload (l := l) (B := B) (y := m_Na_becomeProduct) (pc := 113) (zd_dr dc_Na_becomeProduct 67 rfl)) ?_
  refine zd_ac (ok_lload (l := l) (B := B) (y := m_Na_becomeProduct) (pc := 115) (zd_dr dc_Na_becomeProduct 68 rfl)) ?_
  refine zd_ac (ok_ldc2 (l := l) (B := B) (y := m_Na_becomeProduct) (pc := 117) hG (List.mem_of_getElem? (i := 504) (by decide +kernel)) (zd_dr dc_Na_becomeProduct 69 rfl)) ?_
  refine zd_ac (ok_lmul (l := l) (B := B) (y := m_Na_becomeProduct) (pc := 120) (zd_dr dc_Na_becomeProduct 70 rfl)) ?_
  refine zd_ac (ok_lsub (l := l) (B := B) (y := m_Na_becomeProduct) (pc := 121) (zd_dr dc_Na_becomeProduct 71 rfl)) ?_
  refine zd_ac (ok_l2i (l := l) (B := B) (y := m_Na_becomeProduct) (pc := 122) (zd_dr dc_Na_becomeProduct 72 rfl)) ?_
  refine zd_ac (ok_iastore (l := l) (B := B) (y := m_Na_becomeProduct) (pc := 123) hG (zd_dr dc_Na_becomeProduct 73 rfl)) ?_
  refine zd_ac (ok_iinc (l := l) (B := B) (y := m_Na_becomeProduct) (pc := 124) (zd_dr dc_Na_becomeProduct 74 rfl) (by decide) rfl) ?_
  refine zd_ac (ok_goto (l := l) (B := B) (y := m_Na_becomeProduct) (pc := 127) (zd_dr dc_Na_becomeProduct 75 rfl) (by decide)) ?_
  refine zd_ac (ok_aload_n (l := l) (B := B) (y := m_Na_becomeProduct) (pc := 130) (k := 0) rfl (zd_dr dc_Na_becomeProduct 76 rfl)) ?_
  refine zd_ac (ok_getf (l := l) (B := B) (y := m_Na_becomeProduct) (pc := 131) hG (C := zR4) (T := zT4) (N := 2) (ci := 4) (k := 0) rfl zl4 (by decide) (List.mem_of_getElem? (i := 96) (by decide +kernel)) (zd_dr dc_Na_becomeProduct 77 rfl)) ?_
  refine zd_ac (ok_iload_n (l := l) (B := B) (y := m_Na_becomeProduct) (pc := 134) (k := 3) rfl (zd_dr dc_Na_becomeProduct 78 rfl)) ?_
  refine zd_ac (ok_aload_n (l := l) (B := B) (y := m_Na_becomeProduct) (pc := 135) (k := 2) rfl (zd_dr dc_Na_becomeProduct 79 rfl)) ?_
  refine zd_ac (ok_getf (l := l) (B := B) (y := m_Na_becomeProduct) (pc := 136) hG (C := zR4) (T := zT4) (N := 2) (ci := 4) (k := 1) rfl zl4 (by decide) (List.mem_of_getElem? (i := 98) (by decide +kernel)) (zd_dr dc_Na_becomeProduct 80 rfl)) ?_
  refine zd_ac (ok_iadd (l := l) (B := B) (y := m_Na_becomeProduct) (pc := 139) (zd_dr dc_Na_becomeProduct 81 rfl)) ?_
  refine zd_ac (ok_lload (l := l) (B := B) (y := m_Na_becomeProduct) (pc := 140) (zd_dr dc_Na_becomeProduct 82 rfl)) ?_
  refine zd_ac (ok_l2i (l := l) (B := B) (y := m_Na_becomeProduct) (pc := 142) (zd_dr dc_Na_becomeProduct 83 rfl)) ?_
  refine zd_ac (ok_iastore (l := l) (B := B) (y := m_Na_becomeProduct) (pc := 143) hG (zd_dr dc_Na_becomeProduct 84 rfl)) ?_
  refine zd_ac (ok_iinc (l := l) (B := B) (y := m_Na_becomeProduct) (pc := 144) (zd_dr dc_Na_becomeProduct 85 rfl) (by decide) rfl) ?_
  refine zd_ac (ok_goto (l := l) (B := B) (y := m_Na_becomeProduct) (pc := 147) (zd_dr dc_Na_becomeProduct 86 rfl) (by decide)) ?_
  refine zd_ac (ok_aload_n (l := l) (B := B) (y := m_Na_becomeProduct) (pc := 150) (k := 0) rfl (zd_dr dc_Na_becomeProduct 87 rfl)) ?_
  refine zd_ac (ok_callv (l := l) (B := B) (y := m_Na_becomeProduct) (pc := 151) hG (ci := 4) rfl cf_Na_becomeProduct_Na_trim rfl (List.mem_of_getElem? (i := 505) (by decide +kernel)) (List.mem_of_getElem? (i := 455) (by decide +kernel)) (List.mem_of_getElem? (i := 456) (by decide +kernel)) (zd_dr dc_Na_becomeProduct 88 rfl)) ?_
  refine zd_ac (ok_vret (l := l) (B := B) (y := m_Na_becomeProduct) (pc := 154) rfl (zd_dr dc_Na_becomeProduct 89 rfl)) ?_
  exact zd_an
def dl_Na_move : List (Nat × Instr × Nat) := [(0, .iload_n 1, 1), (1, .ifCond .eq (10), 3), (4, .aload_n 0, 1), (5, .getfield 15, 3), (8, .ifCond .ne (5), 3), (11, .iconst (0), 1), (12, .ireturn, 1), (13, .iload_n 1, 1), (14, .ifCond .ge (10), 3), (17, .aload_n 0, 1), (18, .iload_n 1, 1), (19, .ineg, 1), (20, .invokevirtual 50, 3), (23, .ireturn, 1), (24, .aload_n 0, 1), (25, .iload_n 1, 1), (26, .invokevirtual 54, 3), (29, .iconst (0), 1), (30, .ireturn, 1)]
theorem dc_Na_move : ∀ q ∈ dl_Na_move, decode (zd_yb m_Na_move) q.1 = .ok q.2 := by decide +kernel
def cd_Na_move (l : Launch) (B : zd_B) : List (Nat × zd_S) := [(0, oc_iload 1 1), (1, oc_if_eq 11 4), (4, oc_aload 0 5), (5, oc_getf B 4 1 8), (8, oc_if_ne 13 11), (11, oc_ci (0) 12), (12, oc_iret .boolean), (13, oc_iload 1 14), (14, oc_if_ge 24 17), (17, oc_aload 0 18), (18, oc_iload 1 19), (19, oc_ineg 20), (20, oc_callv l B 4 m_Na_moveDown 1 23), (23, oc_iret .boolean), (24, oc_aload 0 25), (25, oc_iload 1 26), (26, oc_callv l B 4 m_Na_moveUp 1 29), (29, oc_ci (0) 30), (30, oc_iret .boolean)]
set_option maxRecDepth 20000 in
theorem ok_Na_move {l : Launch} {B : zd_B} (hG : zd_G B) (hl : l.stackTraces = false) : ∀ q ∈ cd_Na_move l B, zd_ok l B m_Na_move q.1 q.2 := by
  unfold cd_Na_move
  refine zd_ac (ok_iload_n (l := l) (B := B) (y := m_Na_move) (pc := 0) (k := 1) rfl (zd_dr dc_Na_move 0 rfl)) ?_
  refine zd_ac (ok_if_eq (l := l) (B := B) (y := m_Na_move) (pc := 1) (zd_dr dc_Na_move 1 rfl) (by decide)) ?_
  refine zd_ac (ok_aload_n (l := l) (B := B) (y := m_Na_move) (pc := 4) (k := 0) rfl (zd_dr dc_Na_move 2 rfl)) ?_
  refine zd_ac (ok_getf (l := l) (B := B) (y := m_Na_move) (pc := 5) hG (C := zR4) (T := zT4) (N := 2) (ci := 4) (k := 1) rfl zl4 (by decide) (List.mem_of_getElem? (i := 98) (by decide +kernel)) (zd_dr dc_Na_move 3 rfl)) ?_
  refine zd_ac (ok_if_ne (l := l) (B := B) (y := m_Na_move) (pc := 8) (zd_dr dc_Na_move 4 rfl) (by decide)) ?_
  refine zd_ac (ok_iconst (l := l) (B := B) (y := m_Na_move) (pc := 11) (n := (0)) (zd_dr dc_Na_move 5 rfl) rfl) ?_
  refine zd_ac (ok_iret (l := l) (B := B) (y := m_Na_move) (pc := 12) rfl (zd_dr dc_Na_move 6 rfl)) ?_
  refine zd_ac (ok_iload_n (l := l) (B := B) (y := m_Na_move) (pc := 13) (k := 1) rfl (zd_dr dc_Na_move 7 rfl)) ?_
  refine zd_ac (ok_if_ge (l := l) (B := B) (y := m_Na_move) (pc := 14) (zd_dr dc_Na_move 8 rfl) (by decide)) ?_
  refine zd_ac (ok_aload_n (l := l) (B := B) (y := m_Na_move) (pc := 17) (k := 0) rfl (zd_dr dc_Na_move 9 rfl)) ?_
  refine zd_ac (ok_iload_n (l := l) (B := B) (y := m_Na_move) (pc := 18) (k := 1) rfl (zd_dr dc_Na_move 10 rfl)) ?_
  refine zd_ac (ok_ineg (l := l) (B := B) (y := m_Na_move) (pc := 19) (zd_dr dc_Na_move 11 rfl)) ?_
  refine zd_ac (ok_callv (l := l) (B := B) (y := m_Na_move) (pc := 20) hG (ci := 4) rfl cf_Na_move_Na_moveDown rfl (List.mem_of_getElem? (i := 540) (by decide +kernel)) (List.mem_of_getElem? (i := 542) (by decide +kernel)) (List.mem_of_getElem? (i := 6) (by decide +kernel)) (zd_dr dc_Na_move 12 rfl)) ?_
  refine zd_ac (ok_iret (l := l) (B := B) (y := m_Na_move) (pc := 23) rfl (zd_dr dc_Na_move 13 rfl)) ?_
  refine zd_ac (ok_aload_n (l := l) (B := B) (y := m_Na_move) (pc := 24) (k := 0) rfl (zd_dr dc_Na_move 14 rfl)) ?_
  refine zd_ac (ok_iload_n (l := l) (B := B) (y := m_Na_move) (pc := 25) (k := 1) rfl (zd_dr dc_Na_move 15 rfl)) ?_
  refine zd_ac (ok_callv (l := l) (B := B) (y := m_Na_move) (pc := 26) hG (ci := 4) rfl cf_Na_move_Na_moveUp rfl (List.mem_of_getElem? (i := 545) (by decide +kernel)) (List.mem_of_getElem? (i := 547) (by decide +kernel)) (List.mem_of_getElem? (i := 7) (by decide +kernel)) (zd_dr dc_Na_move 16 rfl)) ?_
  refine zd_ac (ok_iconst (l := l) (B := B) (y := m_Na_move) (pc := 29) (n := (0)) (zd_dr dc_Na_move 17 rfl) rfl) ?_
  refine zd_ac (ok_iret (l := l) (B := B) (y := m_Na_move) (pc := 30) rfl (zd_dr dc_Na_move 18 rfl)) ?_
  exact zd_an
def dl_Na_moveUp : List (Nat × Instr × Nat) := [(0, .iload_n 1, 1), (1, .bipush (9), 2), (3, .idiv, 1), (4, .istore_n 2, 1), (5, .getstatic 19, 3), (8, .iload_n 1, 1), (9, .bipush (9), 2), (11, .irem, 1), (12, .iaload, 1), (13, .istore_n 3, 1), (14, .ldc 57, 2), (16, .iload_n 3, 1), (17, .idiv, 1), (18, .istore 4, 2), (20, .aload_n 0, 1), (21, .getfield 15, 3), (24, .istore 5, 2), (26, .aload_n 0, 1), (27, .aload_n 0, 1), (28, .invokevirtual 58, 3), (31, .iload_n 1, 1), (32, .iadd, 1), (33, .bipush (9), 2), (35, .iadd, 1), (36, .iconst (1), 1), (37, .isub, 1), (38, .bipush (9), 2), (40, .idiv, 1), (41, .invokevirtual 35, 3), (44, .aload_n 0, 1), (45, .getfield 15, 3), (48, .iconst (1), 1), (49, .isub, 1), (50, .istore 6, 2), (52, .iload 6, 2), (54, .iload_n 2, 1), (55, .if_icmp .lt (76), 3), (58, .iload 6, 2), (60, .iload_n 2, 1), (61, .isub, 1), (62, .iload 5, 2), (64, .if_icmp .ge (15), 3), (67, .aload_n 0, 1), (68, .getfield 9, 3), (71, .iload 6, 2), (73, .iload_n 2, 1), (74, .isub, 1), (75, .iaload, 1), (76, .goto (4), 3), (79, .iconst (0), 1), (80, .istore 7, 2), (82, .iload 6, 2), (84, .iload_n 2, 1), (85, .if_icmp .le (17), 3), (88, .aload_n 0, 1), (89, .getfield 9, 3), (92, .iload 6, 2), (94, .iload_n 2, 1), (95, .isub, 1), (96, .iconst (1), 1), (97, .isub, 1), (98, .iaload, 1), (99, .goto (4), 3), (102, .iconst (0), 1), (103, .istore 8, 2), (105, .aload_n 0, 1), (106, .getfield 9, 3), (109, .iload 6, 2), (111, .iload 7, 2), (113, .iload 4, 2), (115, .irem, 1), (116, .iload_n 3, 1), (117, .imul, 1), (118, .iload 8, 2), (120, .iload 4, 2), (122, .idiv, 1), (123, .iadd, 1), (124, .iastore, 1), (125, .iinc 6 (-1), 3), (128, .goto (-76), 3), (131, .iconst (0), 1), (132, .istore 6, 2), (134, .iload 6, 2), (136, .iload_n 2, 1), (137, .if_icmp .ge (17), 3), (140, .aload_n 0, 1), (141, .getfield 9, 3), (144, .iload 6, 2), (146, .iconst (0), 1), (147, .iastore, 1), (148, .iinc 6 (1), 3), (151, .goto (-17), 3), (154, .return_, 1)]
theorem dc_Na_moveUp : ∀ q ∈ dl_Na_moveUp, decode (zd_yb m_Na_moveUp) q.1 = .ok q.2 := by decide +kernel
def cd_Na_moveUp (l : Launch) (B : zd_B) : List (Nat × zd_S) := [(0, oc_iload 1 1), (1, oc_ci (9) 3), (3, oc_idiv 4), (4, oc_istore 2 5), (5, oc_tens B 8), (8, oc_iload 1 9), (9, oc_ci (9) 11), (11, oc_irem 12), (12, oc_iaload B 13), (13, oc_istore 3 14), (14, oc_ci (1000000000) 16), (16, oc_iload 3 17), (17, oc_idiv 18), (18, oc_istore 4 20), (20, oc_aload 0 21), (21, oc_getf B 4 1 24), (24, oc_istore 5 26), (26, oc_aload 0 27), (27, oc_aload 0 28), (28, oc_callv l B 4 m_Na_digits 0 31), (31, oc_iload 1 32), (32, oc_iadd 33), (33, oc_ci (9) 35), (35, oc_iadd 36), (36, oc_ci (1) 37), (37, oc_isub 38), (38, oc_ci (9) 40), (40, oc_idiv 41), (41, oc_callv l B 4 m_Na_claim 1 44), (44, oc_aload 0 45), (45, oc_getf B 4 1 48), (48, oc_ci (1) 49), (49, oc_isub 50), (50, oc_istore 6 52), (52, oc_iload 6 54), (54, oc_iload 2 55), (55, oc_icmp_lt 131 58), (58, oc_iload 6 60), (60, oc_iload 2 61), (61, oc_isub 62), (62, oc_iload 5 64), (64, oc_icmp_ge 79 67), (67, oc_aload 0 68), (68, oc_getf B 4 0 71), (71, oc_iload 6 73), (73, oc_iload 2 74), (74, oc_isub 75), (75, oc_iaload B 76), (76, oc_goto 80), (79, oc_ci (0) 80), (80, oc_istore 7 82), (82, oc_iload 6 84), (84, oc_iload 2 85), (85, oc_icmp_le 102 88), (88, oc_aload 0 89), (89, oc_getf B 4 0 92), (92, oc_iload 6 94), (94, oc_iload 2 95), (95, oc_isub 96), (96, oc_ci (1) 97), (97, oc_isub 98), (98, oc_iaload B 99), (99, oc_goto 103), (102, oc_ci (0) 103), (103, oc_istore 8 105), (105, oc_aload 0 106), (106, oc_getf B 4 0 109), (109, oc_iload 6 111), (111, oc_iload 7 113), (113, oc_iload 4 115), (115, oc_irem 116), (116, oc_iload 3 117), (117, oc_imul 118), (118, oc_iload 8 120), (120, oc_iload 4 122), (122, oc_idiv 123), (123, oc_iadd 124), (124, oc_iastore B 125), (125, oc_iinc 6 (-1) 128), (128, oc_goto 52), (131, oc_ci (0) 132), (132, oc_istore 6 134), (134, oc_iload 6 136), (136, oc_iload 2 137), (137, oc_icmp_ge 154 140), (140, oc_aload 0 141), (141, oc_getf B 4 0 144), (144, oc_iload 6 146), (146, oc_ci (0) 147), (147, oc_iastore B 148), (148, oc_iinc 6 (1) 151), (151, oc_goto 134), (154, oc_vret)]
set_option maxRecDepth 20000 in
theorem ok_Na_moveUp {l : Launch} {B : zd_B} (hG : zd_G B) (hl : l.stackTraces = false) : ∀ q ∈ cd_Na_moveUp l B, zd_ok l B m_Na_moveUp q.1 q.2 := by
  unfold cd_Na_moveUp
  refine zd_ac (ok_iload_n (l := l) (B := B) (y := m_Na_moveUp) (pc := 0) (k := 1) rfl (zd_dr dc_Na_moveUp 0 rfl)) ?_
  refine zd_ac (ok_bipush (l := l) (B := B) (y := m_Na_moveUp) (pc := 1) (n := (9)) (zd_dr dc_Na_moveUp 1 rfl) rfl) ?_
  refine zd_ac (ok_idiv (l := l) (B := B) (y := m_Na_moveUp) (pc := 3) (zd_dr dc_Na_moveUp 2 rfl)) ?_
  refine zd_ac (ok_istore_n (l := l) (B := B) (y := m_Na_moveUp) (pc := 4) (k := 2) rfl (zd_dr dc_Na_moveUp 3 rfl) (by decide)) ?_
  refine zd_ac (ok_tensN (l := l) (B := B) (y := m_Na_moveUp) (pc := 5) (host := "DecimalDesk") hG (List.mem_of_getElem? (i := 452) (by decide +kernel)) (zd_dr dc_Na_moveUp 4 rfl)) ?_
  refine zd_ac (ok_iload_n (l := l) (B := B) (y := m_Na_moveUp) (pc := 8) (k := 1) rfl (zd_dr dc_Na_moveUp 5 rfl)) ?_
  refine zd_ac (ok_bipush (l := l) (B := B) (y := m_Na_moveUp) (pc := 9) (n := (9)) (zd_dr dc_Na_moveUp 6 rfl) rfl) ?_
  refine zd_ac (ok_irem (l := l) (B := B) (y := m_Na_moveUp) (pc := 11) (zd_dr dc_Na_moveUp 7 rfl)) ?_
  refine zd_ac (ok_iaload (l := l) (B := B) (y := m_Na_moveUp) (pc := 12) hG (zd_dr dc_Na_moveUp 8 rfl)) ?_
  refine zd_ac (ok_istore_n (l := l) (B := B) (y := m_Na_moveUp) (pc := 13) (k := 3) rfl (zd_dr dc_Na_moveUp 9 rfl) (by decide)) ?_
  refine zd_ac (ok_ldc (l := l) (B := B) (y := m_Na_moveUp) (pc := 14) hG (List.mem_of_getElem? (i := 544) (by decide +kernel)) (zd_dr dc_Na_moveUp 10 rfl)) ?_
  refine zd_ac (ok_iload_n (l := l) (B := B) (y := m_Na_moveUp) (pc := 16) (k := 3) rfl (zd_dr dc_Na_moveUp 11 rfl)) ?_
  refine zd_ac (ok_idiv (l := l) (B := B) (y := m_Na_moveUp) (pc := 17) (zd_dr dc_Na_moveUp 12 rfl)) ?_
  refine zd_ac (ok_istore (l := l) (B := B) (y := m_Na_moveUp) (pc := 18) (zd_dr dc_Na_moveUp 13 rfl) (by decide)) ?_
  refine zd_ac (ok_aload_n (l := l) (B := B) (y := m_Na_moveUp) (pc := 20) (k := 0) rfl (zd_dr dc_Na_moveUp 14 rfl)) ?_
  refine zd_ac (ok_getf (l := l) (B := B) (y := m_Na_moveUp) (pc := 21) hG (C := zR4) (T := zT4) (N := 2) (ci := 4) (k := 1) rfl zl4 (by decide) (List.mem_of_getElem? (i := 98) (by decide +kernel)) (zd_dr dc_Na_moveUp 15 rfl)) ?_
  refine zd_ac (ok_istore (l := l) (B := B) (y := m_Na_moveUp) (pc := 24) (zd_dr dc_Na_moveUp 16 rfl) (by decide)) ?_
  refine zd_ac (ok_aload_n (l := l) (B := B) (y := m_Na_moveUp) (pc := 26) (k := 0) rfl (zd_dr dc_Na_moveUp 17 rfl)) ?_
  refine zd_ac (ok_aload_n (l := l) (B := B) (y := m_Na_moveUp) (pc := 27) (k := 0) rfl (zd_dr dc_Na_moveUp 18 rfl)) ?_
  refine zd_ac (ok_callv (l := l) (B := B) (y := m_Na_moveUp) (pc := 28) hG (ci := 4) rfl cf_Na_moveUp_Na_digits rfl (List.mem_of_getElem? (i := 549) (by decide +kernel)) (List.mem_of_getElem? (i := 474) (by decide +kernel)) (List.mem_of_getElem? (i := 475) (by decide +kernel)) (zd_dr dc_Na_moveUp 19 rfl)) ?_
  refine zd_ac (ok_iload_n (l := l) (B := B) (y := m_Na_moveUp) (pc := 31) (k := 1) rfl (zd_dr dc_Na_moveUp 20 rfl)) ?_
  refine zd_ac (ok_iadd (l := l) (B := B) (y := m_Na_moveUp) (pc := 32) (zd_dr dc_Na_moveUp 21 rfl)) ?_
  refine zd_ac (ok_bipush (l := l) (B := B) (y := m_Na_moveUp) (pc := 33) (n := (9)) (zd_dr dc_Na_moveUp 22 rfl) rfl) ?_
  refine zd_ac (ok_iadd (l := l) (B := B) (y := m_Na_moveUp) (pc := 35) (zd_dr dc_Na_moveUp 23 rfl)) ?_
  refine zd_ac (ok_iconst (l := l) (B := B) (y := m_Na_moveUp) (pc := 36) (n := (1)) (zd_dr dc_Na_moveUp 24 rfl) rfl) ?_
  refine zd_ac (ok_isub (l := l) (B := B) (y := m_Na_moveUp) (pc := 37) (zd_dr dc_Na_moveUp 25 rfl)) ?_
  refine zd_ac (ok_bipush (l := l) (B := B) (y := m_Na_moveUp) (pc := 38) (n := (9)) (zd_dr dc_Na_moveUp 26 rfl) rfl) ?_
  refine zd_ac (ok_idiv (l := l) (B := B) (y := m_Na_moveUp) (pc := 40) (zd_dr dc_Na_moveUp 27 rfl)) ?_
  refine zd_ac (ok_callv (l := l) (B := B) (y := m_Na_moveUp) (pc := 41) hG (ci := 4) rfl cf_Na_moveUp_Na_claim rfl (List.mem_of_getElem? (i := 441) (by decide +kernel)) (List.mem_of_getElem? (i := 442) (by decide +kernel)) (List.mem_of_getElem? (i := 443) (by decide +kernel)) (zd_dr dc_Na_moveUp 28 rfl)) ?_
  refine zd_ac (ok_aload_n (l := l) (B := B) (y := m_Na_moveUp) (pc := 44) (k := 0) rfl (zd_dr dc_Na_moveUp 29 rfl)) ?_
  refine zd_ac (ok_getf (l := l) (B := B) (y := m_Na_moveUp) (pc := 45) hG (C := zR4) (T := zT4) (N := 2) (ci := 4) (k := 1) rfl zl4 (by decide) (List.mem_of_getElem? (i := 98) (by decide +kernel)) (zd_dr dc_Na_moveUp 30 rfl)) ?_
  refine zd_ac (ok_iconst (l := l) (B := B) (y := m_Na_moveUp) (pc := 48) (n := (1)) (zd_dr dc_Na_moveUp 31 rfl) rfl) ?_
  refine zd_ac (ok_isub (l := l) (B := B) (y := m_Na_moveUp) (pc := 49) (zd_dr dc_Na_moveUp 32 rfl)) ?_
  refine zd_ac (ok_istore (l := l) (B := B) (y := m_Na_moveUp) (pc := 50) (zd_dr dc_Na_moveUp 33 rfl) (by decide)) ?_
  refine zd_ac (ok_iload (l := l) (B := B) (y := m_Na_moveUp) (pc := 52) (zd_dr dc_Na_moveUp 34 rfl)) ?_
  refine zd_ac (ok_iload_n (l := l) (B := B) (y := m_Na_moveUp) (pc := 54) (k := 2) rfl (zd_dr dc_Na_moveUp 35 rfl)) ?_
  refine zd_ac (ok_icmp_lt (l := l) (B := B) (y := m_Na_moveUp) (pc := 55) (zd_dr dc_Na_moveUp 36 rfl) (by decide)) ?_
  refine zd_ac (ok_iload (l := l) (B := B) (y := m_Na_moveUp) (pc := 58) (zd_dr dc_Na_moveUp 37 rfl)) ?_
  refine zd_ac (ok_iload_n (l := l) (B := B) (y := m_Na_moveUp) (pc := 60) (k := 2) rfl (zd_dr dc_Na_moveUp 38 rfl)) ?_
  refine zd_ac (ok_isub (l := l) (B := B) (y := m_Na_moveUp) (pc := 61) (zd_dr dc_Na_moveUp 39 rfl)) ?_
  refine zd_ac (ok_iload (l := l) (B := B) (y := m_Na_moveUp) (pc := 62) (zd_dr dc_Na_moveUp 40 rfl)) ?_
  refine zd_ac (ok_icmp_ge (l := l) (B := B) (y := m_Na_moveUp) (pc := 64) (zd_dr dc_Na_moveUp 41 rfl) (by decide)) ?_
  refine zd_ac (ok_aload_n (l := l) (B := B) (y := m_Na_moveUp) (pc := 67) (k := 0) rfl (zd_dr dc_Na_moveUp 42 rfl)) ?_
  refine zd_ac (ok_getf (l := l) (B := B) (y := m_Na_moveUp) (pc := 68) hG (C := zR4) (T := zT4) (N := 2) (ci := 4) (k := 0) rfl zl4 (by decide) (List.mem_of_getElem? (i := 96) (by decide +kernel)) (zd_dr dc_Na_moveUp 43 rfl)) ?_
  refine zd_ac (ok_iload (l := l) (B := B) (y := m_Na_moveUp) (pc := 71) (zd_dr dc_Na_moveUp 44 rfl)) ?_
  refine zd_ac (ok_iload_n (l := l) (B := B) (y := m_Na_moveUp) (pc := 73) (k := 2) rfl (zd_dr dc_Na_moveUp 45 rfl)) ?_
  refine zd_ac (ok_isub (l := l) (B := B) (y := m_Na_moveUp) (pc := 74) (zd_dr dc_Na_moveUp 46 rfl)) ?_
  refine zd_ac (ok_iaload (l := l) (B := B) (y := m_Na_moveUp) (pc := 75) hG (zd_dr dc_Na_moveUp 47 rfl)) ?_
  refine zd_ac (ok_goto (l := l) (B := B) (y := m_Na_moveUp) (pc := 76) (zd_dr dc_Na_moveUp 48 rfl) (by decide)) ?_
  refine zd_ac (ok_iconst (l := l) (B := B) (y := m_Na_moveUp) (pc := 79) (n := (0)) (zd_dr dc_Na_moveUp 49 rfl) rfl) ?_
  refine zd_ac (ok_istore (l := l) (B := B) (y := m_Na_moveUp) (pc := 80) (zd_dr dc_Na_moveUp 50 rfl) (by decide)) ?_
  refine zd_ac (ok_iload (l := l) (B := B) (y := m_Na_moveUp) (pc := 82) (zd_dr dc_Na_moveUp 51 rfl)) ?_
  refine zd_ac (ok_iload_n (l := l) (B := B) (y := m_Na_moveUp) (pc := 84) (k := 2) rfl (zd_dr dc_Na_moveUp 52 rfl)) ?_
  refine zd_ac (ok_icmp_le (l := l) (B := B) (y := m_Na_moveUp) (pc := 85) (zd_dr dc_Na_moveUp 53 rfl) (by decide)) ?_
  refine zd_ac (ok_aload_n (l := l) (B := B) (y := m_Na_moveUp) (pc := 88) (k := 0) rfl (zd_dr dc_Na_moveUp 54 rfl)) ?_
  refine zd_ac (ok_getf (l := l) (B := B) (y := m_Na_moveUp) (pc := 89) hG (C := zR4) (T := zT4) (N := 2) (ci := 4) (k := 0) rfl zl4 (by decide) (List.mem_of_getElem? (i := 96) (by decide +kernel)) (zd_dr dc_Na_moveUp 55 rfl)) ?_
  refine zd_ac (ok_iload (l := l) (B := B) (y := m_Na_moveUp) (pc := 92) (zd_dr dc_Na_moveUp 56 rfl)) ?_
  refine zd_ac (ok_iload_n (l := l) (B := B) (y := m_Na_moveUp) (pc := 94) (k := 2) rfl (zd_dr dc_Na_moveUp 57 rfl)) ?_
  refine zd_ac (ok_isub (l := l) (B := B) (y := m_Na_moveUp) (pc := 95) (zd_dr dc_Na_moveUp 58 rfl)) ?_
  refine zd_ac (ok_iconst (l := l) (B := B) (y := m_Na_moveUp) (pc := 96) (n := (1)) (zd_dr dc_Na_moveUp 59 rfl) rfl) ?_
  refine zd_ac (ok_isub (l := l) (B := B) (y := m_Na_moveUp) (pc := 97) (zd_dr dc_Na_moveUp 60 rfl)) ?_
  refine zd_ac (ok_iaload (l := l) (B := B) (y := m_Na_moveUp) (pc := 98) hG (zd_dr dc_Na_moveUp 61 rfl)) ?_
  refine zd_ac (ok_goto (l := l) (B := B) (y := m_Na_moveUp) (pc := 99) (zd_dr dc_Na_moveUp 62 rfl) (by decide)) ?_
  refine zd_ac (ok_iconst (l := l) (B := B) (y := m_Na_moveUp) (pc := 102) (n := (0)) (zd_dr dc_Na_moveUp 63 rfl) rfl) ?_
  refine zd_ac (ok_istore (l := l) (B := B) (y := m_Na_moveUp) (pc := 103) (zd_dr dc_Na_moveUp 64 rfl) (by decide)) ?_
  refine zd_ac (ok_aload_n (l := l) (B := B) (y := m_Na_moveUp) (pc := 105) (k := 0) rfl (zd_dr dc_Na_moveUp 65 rfl)) ?_
  refine zd_ac (ok_getf (l := l) (B := B) (y := m_Na_moveUp) (pc := 106) hG (C := zR4) (T := zT4) (N := 2) (ci := 4) (k := 0) rfl zl4 (by decide) (List.mem_of_getElem? (i := 96) (by decide +kernel)) (zd_dr dc_Na_moveUp 66 rfl)) ?_
  refine zd_ac (ok_iload (l := l) (B := B) (y := m_Na_moveUp) (pc := 109) (zd_dr dc_Na_moveUp 67 rfl)) ?_
  refine zd_ac (ok_iload (l := l) (B := B) (y := m_Na_moveUp) (pc := 111) (zd_dr dc_Na_moveUp 68 rfl)) ?_
  refine zd_ac (ok_iload (l := l) (B := B) (y := m_Na_moveUp) (pc := 113) (zd_dr dc_Na_moveUp 69 rfl)) ?_
  refine zd_ac (ok_irem (l := l) (B := B) (y := m_Na_moveUp) (pc := 115) (zd_dr dc_Na_moveUp 70 rfl)) ?_
  refine zd_ac (ok_iload_n (l := l) (B := B) (y := m_Na_moveUp) (pc := 116) (k := 3) rfl (zd_dr dc_Na_moveUp 71 rfl)) ?_
  refine zd_ac (ok_imul (l := l) (B := B) (y := m_Na_moveUp) (pc := 117) (zd_dr dc_Na_moveUp 72 rfl)) ?_
  refine zd_ac (ok_iload (l := l) (B := B) (y := m_Na_moveUp) (pc := 118) (zd_dr dc_Na_moveUp 73 rfl)) ?_
  refine zd_ac (ok_iload (l := l) (B := B) (y := m_Na_moveUp) (pc := 120) (zd_dr dc_Na_moveUp 74 rfl)) ?_
  refine zd_ac (ok_idiv (l := l) (B := B) (y := m_Na_moveUp) (pc := 122) (zd_dr dc_Na_moveUp 75 rfl)) ?_
  refine zd_ac (ok_iadd (l := l) (B := B) (y := m_Na_moveUp) (pc := 123) (zd_dr dc_Na_moveUp 76 rfl)) ?_
  refine zd_ac (ok_iastore (l := l) (B := B) (y := m_Na_moveUp) (pc := 124) hG (zd_dr dc_Na_moveUp 77 rfl)) ?_
  refine zd_ac (ok_iinc (l := l) (B := B) (y := m_Na_moveUp) (pc := 125) (zd_dr dc_Na_moveUp 78 rfl) (by decide) rfl) ?_
  refine zd_ac (ok_goto (l := l) (B := B) (y := m_Na_moveUp) (pc := 128) (zd_dr dc_Na_moveUp 79 rfl) (by decide)) ?_
  refine zd_ac (ok_iconst (l := l) (B := B) (y := m_Na_moveUp) (pc := 131) (n := (0)) (zd_dr dc_Na_moveUp 80 rfl) rfl) ?_
  refine zd_ac (ok_istore (l := l) (B := B) (y := m_Na_moveUp) (pc := 132) (zd_dr dc_Na_moveUp 81 rfl) (by decide)) ?_
  refine zd_ac (ok_iload (l := l) (B := B) (y := m_Na_moveUp) (pc := 134) (zd_dr dc_Na_moveUp 82 rfl)) ?_
  refine zd_ac (ok_iload_n (l := l) (B := B) (y := m_Na_moveUp) (pc := 136) (k := 2) rfl (zd_dr dc_Na_moveUp 83 rfl)) ?_
  refine zd_ac (ok_icmp_ge (l := l) (B := B) (y := m_Na_moveUp) (pc := 137) (zd_dr dc_Na_moveUp 84 rfl) (by decide)) ?_
  refine zd_ac (ok_aload_n (l := l) (B := B) (y := m_Na_moveUp) (pc := 140) (k := 0) rfl (zd_dr dc_Na_moveUp 85 rfl)) ?_
  refine zd_ac (ok_getf (l := l) (B := B) (y := m_Na_moveUp) (pc := 141) hG (C := zR4) (T := zT4) (N := 2) (ci := 4) (k := 0) rfl zl4 (by decide) (List.mem_of_getElem? (i := 96) (by decide +kernel)) (zd_dr dc_Na_moveUp 86 rfl)) ?_
  refine zd_ac (ok_iload (l := l) (B := B) (y := m_Na_moveUp) (pc := 144) (zd_dr dc_Na_moveUp 87 rfl)) ?_
  refine zd_ac (ok_iconst (l := l) (B := B) (y := m_Na_moveUp) (pc := 146) (n := (0)) (zd_dr dc_Na_moveUp 88 rfl) rfl) ?_
  refine zd_ac (ok_iastore (l := l) (B := B) (y := m_Na_moveUp) (pc := 147) hG (zd_dr dc_Na_moveUp 89 rfl)) ?_
  refine zd_ac (ok_iinc (l := l) (B := B) (y := m_Na_moveUp) (pc := 148) (zd_dr dc_Na_moveUp 90 rfl) (by decide) rfl) ?_
  refine zd_ac (ok_goto (l := l) (B := B) (y := m_Na_moveUp) (pc := 151) (zd_dr dc_Na_moveUp 91 rfl) (by decide)) ?_
  refine zd_ac (ok_vret (l := l) (B := B) (y := m_Na_moveUp) (pc := 154) rfl (zd_dr dc_Na_moveUp 92 rfl)) ?_
  exact zd_an
def dl_Na_moveDown : List (Nat × Instr × Nat) := [(0, .iload_n 1, 1), (1, .bipush (9), 2), (3, .idiv, 1), (4, .istore_n 2, 1), (5, .iload_n 2, 1), (6, .aload_n 0, 1), (7, .getfield 15, 3), (10, .if_icmp .lt (10), 3), (13, .aload_n 0, 1), (14, .iconst (0), 1), (15, .putfield 15, 3), (18, .iconst (1), 1), (19, .ireturn, 1), (20, .getstatic 19, 3), (23, .iload_n 1, 1), (24, .bipush (9), 2), (26, .irem, 1), (27, .iaload, 1), (28, .istore_n 3, 1), (29, .ldc 57, 2), (31, .iload_n 3, 1), (32, .idiv, 1), (33, .istore 4, 2), (35, .aload_n 0, 1), (36, .getfield 9, 3), (39, .iload_n 2, 1), (40, .iaload, 1), (41, .iload_n 3, 1), (42, .irem, 1), (43, .ifCond .eq (7), 3), (46, .iconst (1), 1), (47, .goto (4), 3), (50, .iconst (0), 1), (51, .istore 5, 2), (53, .iconst (0), 1), (54, .istore 6, 2), (56, .iload 6, 2), (58, .iload_n 2, 1), (59, .if_icmp .ge (31), 3), (62, .iload 5, 2), (64, .ifCond .ne (26), 3), (67, .aload_n 0, 1), (68, .getfield 9, 3), (71, .iload 6, 2), (73, .iaload, 1), (74, .ifCond .eq (7), 3), (77, .iconst (1), 1), (78, .goto (4), 3), (81, .iconst (0), 1), (82, .istore 5, 2), (84, .iinc 6 (1), 3), (87, .goto (-31), 3), (90, .iload_n 2, 1), (91, .istore 6, 2), (93, .iload 6, 2), (95, .aload_n 0, 1), (96, .getfield 15, 3), (99, .if_icmp .ge (61), 3), (102, .iload 6, 2), (104, .iconst (1), 1), (105, .iadd, 1), (106, .aload_n 0, 1), (107, .getfield 15, 3), (110, .if_icmp .ge (15), 3), (113, .aload_n 0, 1), (114, .getfield 9, 3), (117, .iload 6, 2), (119, .iconst (1), 1), (120, .iadd, 1), (121, .iaload, 1), (122, .goto (4), 3), (125, .iconst (0), 1), (126, .istore 7, 2), (128, .aload_n 0, 1), (129, .getfield 9, 3), (132, .iload 6, 2), (134, .iload_n 2, 1), (135, .isub, 1), (136, .aload_n 0, 1), (137, .getfield 9, 3), (140, .iload 6, 2), (142, .iaload, 1), (143, .iload_n 3, 1), (144, .idiv, 1), (145, .iload 7, 2), (147, .iload_n 3, 1), (148, .irem, 1), (149, .iload 4, 2), (151, .imul, 1), (152, .iadd, 1), (153, .iastore, 1), (154, .iinc 6 (1), 3), (157, .goto (-64), 3), (160, .aload_n 0, 1), (161, .dup, 1), (162, .getfield 15, 3), (165, .iload_n 2, 1), (166, .isub, 1), (167, .putfield 15, 3), (170, .aload_n 0, 1), (171, .invokevirtual 47, 3), (174, .iload 5, 2), (176, .ireturn, 1)]
theorem dc_Na_moveDown : ∀ q ∈ dl_Na_moveDown, decode (zd_yb m_Na_moveDown) q.1 = .ok q.2 := by decide +kernel
def cd_Na_moveDown (l : Launch) (B : zd_B) : List (Nat × zd_S) := [(0, oc_iload 1 1), (1, oc_ci (9) 3), (3, oc_idiv 4), (4, oc_istore 2 5), (5, oc_iload 2 6), (6, oc_aload 0 7), (7, oc_getf B 4 1 10), (10, oc_icmp_lt 20 13), (13, oc_aload 0 14), (14, oc_ci (0) 15), (15, oc_putf B (zy4 1) 4 1 18), (18, oc_ci (1) 19), (19, oc_iret .boolean), (20, oc_tens B 23), (23, oc_iload 1 24), (24, oc_ci (9) 26), (26, oc_irem 27), (27, oc_iaload B 28), (28, oc_istore 3 29), (29, oc_ci (1000000000) 31), (31, oc_iload 3 32), (32, oc_idiv 33), (33, oc_istore 4 35), (35, oc_aload 0 36), (36, oc_getf B 4 0 39), (39, oc_iload 2 40), (40, oc_iaload B 41), (41, oc_iload 3 42), (42, oc_irem 43), (43, oc_if_eq 50 46), (46, oc_ci (1) 47), (47, oc_goto 51), (50, oc_ci (0) 51), (51, oc_istore 5 53), (53, oc_ci (0) 54), (54, oc_istore 6 56), (56, oc_iload 6 58), (58, oc_iload 2 59), (59, oc_icmp_ge 90 62), (62, oc_iload 5 64), (64, oc_if_ne 90 67), (67, oc_aload 0 68), (68, oc_getf B 4 0 71), (71, oc_iload 6 73), (73, oc_iaload B 74), (74, oc_if_eq 81 77), (77, oc_ci (1) 78), (78, oc_goto 82), (81, oc_ci (0) 82), (82, oc_istore 5 84), (84, oc_iinc 6 (1) 87), (87, oc_goto 56), (90, oc_iload 2 91), (91, oc_istore 6 93), (93, oc_iload 6 95), (95, oc_aload 0 96), (96, oc_getf B 4 1 99), (99, oc_icmp_ge 160 102), (102, oc_iload 6 104), (104, oc_ci (1) 105), (105, oc_iadd 106), (106, oc_aload 0 107), (107, oc_getf B 4 1 110), (110, oc_icmp_ge 125 113), (113, oc_aload 0 114), (114, oc_getf B 4 0 117), (117, oc_iload 6 119), (119, oc_ci (1) 120), (120, oc_iadd 121), (121, oc_iaload B 122), (122, oc_goto 126), (125, oc_ci (0) 126), (126, oc_istore 7 128), (128, oc_aload 0 129), (129, oc_getf B 4 0 132), (132, oc_iload 6 134), (134, oc_iload 2 135), (135, oc_isub 136), (136, oc_aload 0 137), (137, oc_getf B 4 0 140), (140, oc_iload 6 142), (142, oc_iaload B 143), (143, oc_iload 3 144), (144, oc_idiv 145), (145, oc_iload 7 147), (147, oc_iload 3 148), (148, oc_irem 149), (149, oc_iload 4 151), (151, oc_imul 152), (152, oc_iadd 153), (153, oc_iastore B 154), (154, oc_iinc 6 (1) 157), (157, oc_goto 93), (160, oc_aload 0 161), (161, oc_dup 162), (162, oc_getf B 4 1 165), (165, oc_iload 2 166), (166, oc_isub 167), (167, oc_putf B (zy4 1) 4 1 170), (170, oc_aload 0 171), (171, oc_callv l B 4 m_Na_trim 0 174), (174, oc_iload 5 176), (176, oc_iret .boolean)]
set_option maxRecDepth 20000 in
theorem ok_Na_moveDown {l : Launch} {B : zd_B} (hG : zd_G B) (hl : l.stackTraces = false) : ∀ q ∈ cd_Na_moveDown l B, zd_ok l B m_Na_moveDown q.1 q.2 := by
  unfold cd_Na_moveDown
  refine zd_ac (ok_iload_n (l := l) (B := B) (y := m_Na_moveDown) (pc := 0) (k := 1) rfl (zd_dr dc_Na_moveDown 0 rfl)) ?_
  refine zd_ac (ok_bipush (l := l) (B := B) (y := m_Na_moveDown) (pc := 1) (n := (9)) (zd_dr dc_Na_moveDown 1 rfl) rfl) ?_
  refine zd_ac (ok_idiv (l := l) (B := B) (y := m_Na_moveDown) (pc := 3) (zd_dr dc_Na_moveDown 2 rfl)) ?_
  refine zd_ac (ok_istore_n (l := l) (B := B) (y := m_Na_moveDown) (pc := 4) (k := 2) rfl (zd_dr dc_Na_moveDown 3 rfl) (by decide)) ?_
  refine zd_ac (ok_iload_n (l := l) (B := B) (y := m_Na_moveDown) (pc := 5) (k := 2) rfl (zd_dr dc_Na_moveDown 4 rfl)) ?_
  refine zd_ac (ok_aload_n (l := l) (B := B) (y := m_Na_moveDown) (pc := 6) (k := 0) rfl (zd_dr dc_Na_moveDown 5 rfl)) ?_
  refine zd_ac (ok_getf (l := l) (B := B) (y := m_Na_moveDown) (pc := 7) hG (C := zR4) (T := zT4) (N := 2) (ci := 4) (k := 1) rfl zl4 (by decide) (List.mem_of_getElem? (i := 98) (by decide +kernel)) (zd_dr dc_Na_moveDown 6 rfl)) ?_
  refine zd_ac (ok_icmp_lt (l := l) (B := B) (y := m_Na_moveDown) (pc := 10) (zd_dr dc_Na_moveDown 7 rfl) (by decide)) ?_
  refine zd_ac (ok_aload_n (l := l) (B := B) (y := m_Na_moveDown) (pc := 13) (k := 0) rfl (zd_dr dc_Na_moveDown 8 rfl)) ?_
  refine zd_ac (ok_iconst (l := l) (B := B) (y := m_Na_moveDown) (pc := 14) (n := (0)) (zd_dr dc_Na_moveDown 9 rfl) rfl) ?_
  refine zd_ac (ok_putf (l := l) (B := B) (y := m_Na_moveDown) (pc := 15) hG (C := zR4) (T := zT4) (N := 2) (ci := 4) (k := 1) rfl zl4 zt4 (by decide) (List.mem_of_getElem? (i := 98) (by decide +kernel)) rfl (zd_dr dc_Na_moveDown 10 rfl)) ?_
  refine zd_ac (ok_iconst (l := l) (B := B) (y := m_Na_moveDown) (pc := 18) (n := (1)) (zd_dr dc_Na_moveDown 11 rfl) rfl) ?_
  refine zd_ac (ok_iret (l := l) (B := B) (y := m_Na_moveDown) (pc := 19) rfl (zd_dr dc_Na_moveDown 12 rfl)) ?_
  refine zd_ac (ok_tensN (l := l) (B := B) (y := m_Na_moveDown) (pc := 20) (host := "DecimalDesk") hG (List.mem_of_getElem? (i := 452) (by decide +kernel)) (zd_dr dc_Na_moveDown 13 rfl)) ?_
  refine zd_ac (ok_iload_n (l := l) (B := B) (y := m_Na_moveDown) (pc := 23) (k := 1) rfl (zd_dr dc_Na_moveDown 14 rfl)) ?_
  refine zd_ac (ok_bipush (l := l) (B := B) (y := m_Na_moveDown) (pc := 24) (n := (9)) (zd_dr dc_Na_moveDown 15 rfl) rfl) ?_
  refine zd_ac (ok_irem (l := l) (B := B) (y := m_Na_moveDown) (pc := 26) (zd_dr dc_Na_moveDown 16 rfl)) ?_
  refine zd_ac (ok_iaload (l := l) (B := B) (y := m_Na_moveDown) (pc := 27) hG (zd_dr dc_Na_moveDown 17 rfl)) ?_
  refine zd_ac (ok_istore_n (l := l) (B := B) (y := m_Na_moveDown) (pc := 28) (k := 3) rfl (zd_dr dc_Na_moveDown 18 rfl) (by decide)) ?_
  refine zd_ac (ok_ldc (l := l) (B := B) (y := m_Na_moveDown) (pc := 29) hG (List.mem_of_getElem? (i := 544) (by decide +kernel)) (zd_dr dc_Na_moveDown 19 rfl)) ?_
  refine zd_ac (ok_iload_n (l := l) (B := B) (y := m_Na_moveDown) (pc := 31) (k := 3) rfl (zd_dr dc_Na_moveDown 20 rfl)) ?_
  refine zd_ac (ok_idiv (l := l) (B := B) (y := m_Na_moveDown) (pc := 32) (zd_dr dc_Na_moveDown 21 rfl)) ?_
  refine zd_ac (ok_istore (l := l) (B := B) (y := m_Na_moveDown) (pc := 33) (zd_dr dc_Na_moveDown 22 rfl) (by decide)) ?_
  refine zd_ac (ok_aload_n (l := l) (B := B) (y := m_Na_moveDown) (pc := 35) (k := 0) rfl (zd_dr dc_Na_moveDown 23 rfl)) ?_
  refine zd_ac (ok_getf (l := l) (B := B) (y := m_Na_moveDown) (pc := 36) hG (C := zR4) (T := zT4) (N := 2) (ci := 4) (k := 0) rfl zl4 (by decide) (List.mem_of_getElem? (i := 96) (by decide +kernel)) (zd_dr dc_Na_moveDown 24 rfl)) ?_
  refine zd_ac (ok_iload_n (l := l) (B := B) (y := m_Na_moveDown) (pc := 39) (k := 2) rfl (zd_dr dc_Na_moveDown 25 rfl)) ?_
  refine zd_ac (ok_iaload (l := l) (B := B) (y := m_Na_moveDown) (pc := 40) hG (zd_dr dc_Na_moveDown 26 rfl)) ?_
  refine zd_ac (ok_iload_n (l := l) (B := B) (y := m_Na_moveDown) (pc := 41) (k := 3) rfl (zd_dr dc_Na_moveDown 27 rfl)) ?_
  refine zd_ac (ok_irem (l := l) (B := B) (y := m_Na_moveDown) (pc := 42) (zd_dr dc_Na_moveDown 28 rfl)) ?_
  refine zd_ac (ok_if_eq (l := l) (B := B) (y := m_Na_moveDown) (pc := 43) (zd_dr dc_Na_moveDown 29 rfl) (by decide)) ?_
  refine zd_ac (ok_iconst (l := l) (B := B) (y := m_Na_moveDown) (pc := 46) (n := (1)) (zd_dr dc_Na_moveDown 30 rfl) rfl) ?_
  refine zd_ac (ok_goto (l := l) (B := B) (y := m_Na_moveDown) (pc := 47) (zd_dr dc_Na_moveDown 31 rfl) (by decide)) ?_
  refine zd_ac (ok_iconst (l := l) (B := B) (y := m_Na_moveDown) (pc := 50) (n := (0)) (zd_dr dc_Na_moveDown 32 rfl) rfl) ?_
  refine zd_ac (ok_istore (l := l) (B := B) (y := m_Na_moveDown) (pc := 51) (zd_dr dc_Na_moveDown 33 rfl) (by decide)) ?_
  refine zd_ac (ok_iconst (l := l) (B := B) (y := m_Na_moveDown) (pc := 53) (n := (0)) (zd_dr dc_Na_moveDown 34 rfl) rfl) ?_
  refine zd_ac (ok_istore (l := l) (B := B) (y := m_Na_moveDown) (pc := 54) (zd_dr dc_Na_moveDown 35 rfl) (by decide)) ?_
  refine zd_ac (ok_iload (l := l) (B := B) (y := m_Na_moveDown) (pc := 56) (zd_dr dc_Na_moveDown 36 rfl)) ?_
  refine zd_ac (ok_iload_n (l := l) (B := B) (y := m_Na_moveDown) (pc := 58) (k := 2) rfl (zd_dr dc_Na_moveDown 37 rfl)) ?_
  refine zd_ac (ok_icmp_ge (l := l) (B := B) (y := m_Na_moveDown) (pc := 59) (zd_dr dc_Na_moveDown 38 rfl) (by decide)) ?_
  refine zd_ac (ok_iload (l := l) (B := B) (y := m_Na_moveDown) (pc := 62) (zd_dr dc_Na_moveDown 39 rfl)) ?_
  refine zd_ac (ok_if_ne (l := l) (B := B) (y := m_Na_moveDown) (pc := 64) (zd_dr dc_Na_moveDown 40 rfl) (by decide)) ?_
  refine zd_ac (ok_aload_n (l := l) (B := B) (y := m_Na_moveDown) (pc := 67) (k := 0) rfl (zd_dr dc_Na_moveDown 41 rfl)) ?_
  refine zd_ac (ok_getf (l := l) (B := B) (y := m_Na_moveDown) (pc := 68) hG (C := zR4) (T := zT4) (N := 2) (ci := 4) (k := 0) rfl zl4 (by decide) (List.mem_of_getElem? (i := 96) (by decide +kernel)) (zd_dr dc_Na_moveDown 42 rfl)) ?_
  refine zd_ac (ok_iload (l := l) (B := B) (y := m_Na_moveDown) (pc := 71) (zd_dr dc_Na_moveDown 43 rfl)) ?_
  refine zd_ac (ok_iaload (l := l) (B := B) (y := m_Na_moveDown) (pc := 73) hG (zd_dr dc_Na_moveDown 44 rfl)) ?_
  refine zd_ac (ok_if_eq (l := l) (B := B) (y := m_Na_moveDown) (pc := 74) (zd_dr dc_Na_moveDown 45 rfl) (by decide)) ?_
  refine zd_ac (ok_iconst (l := l) (B := B) (y := m_Na_moveDown) (pc := 77) (n := (1)) (zd_dr dc_Na_moveDown 46 rfl) rfl) ?_
  refine zd_ac (ok_goto (l := l) (B := B) (y := m_Na_moveDown) (pc := 78) (zd_dr dc_Na_moveDown 47 rfl) (by decide)) ?_
  refine zd_ac (ok_iconst (l := l) (B := B) (y := m_Na_moveDown) (pc := 81) (n := (0)) (zd_dr dc_Na_moveDown 48 rfl) rfl) ?_
  refine zd_ac (ok_istore (l := l) (B := B) (y := m_Na_moveDown) (pc := 82) (zd_dr dc_Na_moveDown 49 rfl) (by decide)) ?_
  refine zd_ac (ok_iinc (l := l) (B := B) (y := m_Na_moveDown) (pc := 84) (zd_dr dc_Na_moveDown 50 rfl) (by decide) rfl) ?_
  refine zd_ac (ok_goto (l := l) (B := B) (y := m_Na_moveDown) (pc := 87) (zd_dr dc_Na_moveDown 51 rfl) (by decide)) ?_
  refine zd_ac (ok_iload_n (l := l) (B := B) (y := m_Na_moveDown) (pc := 90) (k := 2) rfl (zd_dr dc_Na_moveDown 52 rfl)) ?_
  refine zd_ac (ok_istore (l := l) (B := B) (y := m_Na_moveDown) (pc := 91) (zd_dr dc_Na_moveDown 53 rfl) (by decide)) ?_
  refine zd_ac (ok_iload (l := l) (B := B) (y := m_Na_moveDown) (pc := 93) (zd_dr dc_Na_moveDown 54 rfl)) ?_
  refine zd_ac (ok_aload_n (l := l) (B := B) (y := m_Na_moveDown) (pc := 95) (k := 0) rfl (zd_dr dc_Na_moveDown 55 rfl)) ?_
  refine zd_ac (ok_getf (l := l) (B := B) (y := m_Na_moveDown) (pc := 96) hG (C := zR4) (T := zT4) (N := 2) (ci := 4) (k := 1) rfl zl4 (by decide) (List.mem_of_getElem? (i := 98) (by decide +kernel)) (zd_dr dc_Na_moveDown 56 rfl)) ?_
  refine zd_ac (ok_icmp_ge (l := l) (B := B) (y := m_Na_moveDown) (pc := 99) (zd_dr dc_Na_moveDown 57 rfl) (by decide)) ?_
  refine zd_ac (ok_iload (l := l) (B := B) (y := m_Na_moveDown) (pc := 102) (zd_dr dc_Na_moveDown 58 rfl)) ?_
  refine zd_ac (ok_iconst (l := l) (B := B) (y := m_Na_moveDown) (pc := 104) (n := (1)) (zd_dr dc_Na_moveDown 59 rfl) rfl) ?_
  refine zd_ac (ok_iadd (l := l) (B := B) (y := m_Na_moveDown) (pc := 105) (zd_dr dc_Na_moveDown 60 rfl)) ?_
  refine zd_ac (ok_aload_n (l := l) (B := B) (y := m_Na_moveDown) (pc := 106) (k := 0) rfl (zd_dr dc_Na_moveDown 61 rfl)) ?_
  refine zd_ac (ok_getf (l := l) (B := B) (y := m_Na_moveDown) (pc := 107) hG (C := zR4) (T := zT4) (N := 2) (ci := 4) (k := 1) rfl zl4 (by decide) (List.mem_of_getElem? (i := 98) (by decide +kernel)) (zd_dr dc_Na_moveDown 62 rfl)) ?_
  refine zd_ac (ok_icmp_ge (l := l) (B := B) (y := m_Na_moveDown) (pc := 110) (zd_dr dc_Na_moveDown 63 rfl) (by decide)) ?_
  refine zd_ac (ok_aload_n (l := l) (B := B) (y := m_Na_moveDown) (pc := 113) (k := 0) rfl (zd_dr dc_Na_moveDown 64 rfl)) ?_
  refine zd_ac (ok_getf (l := l) (B := B) (y := m_Na_moveDown) (pc := 114) hG (C := zR4) (T := zT4) (N := 2) (ci := 4) (k := 0) rfl zl4 (by decide) (List.mem_of_getElem? (i := 96) (by decide +kernel)) (zd_dr dc_Na_moveDown 65 rfl)) ?_
  refine zd_ac (ok_iload (l := l) (B := B) (y := m_Na_moveDown) (pc := 117) (zd_dr dc_Na_moveDown 66 rfl)) ?_
  refine zd_ac (ok_iconst (l := l) (B := B) (y := m_Na_moveDown) (pc := 119) (n := (1)) (zd_dr dc_Na_moveDown 67 rfl) rfl) ?_
  refine zd_ac (ok_iadd (l := l) (B := B) (y := m_Na_moveDown) (pc := 120) (zd_dr dc_Na_moveDown 68 rfl)) ?_
  refine zd_ac (ok_iaload (l := l) (B := B) (y := m_Na_moveDown) (pc := 121) hG (zd_dr dc_Na_moveDown 69 rfl)) ?_
  refine zd_ac (ok_goto (l := l) (B := B) (y := m_Na_moveDown) (pc := 122) (zd_dr dc_Na_moveDown 70 rfl) (by decide)) ?_
  refine zd_ac (ok_iconst (l := l) (B := B) (y := m_Na_moveDown) (pc := 125) (n := (0)) (zd_dr dc_Na_moveDown 71 rfl) rfl) ?_
  refine zd_ac (ok_istore (l := l) (B := B) (y := m_Na_moveDown) (pc := 126) (zd_dr dc_Na_moveDown 72 rfl) (by decide)) ?_
  refine zd_ac (ok_aload_n (l := l) (B := B) (y := m_Na_moveDown) (pc := 128) (k := 0) rfl (zd_dr dc_Na_moveDown 73 rfl)) ?_
  refine zd_ac (ok_getf (l := l) (B := B) (y := m_Na_moveDown) (pc := 129) hG (C := zR4) (T := zT4) (N := 2) (ci := 4) (k := 0) rfl zl4 (by decide) (List.mem_of_getElem? (i := 96) (by decide +kernel)) (zd_dr dc_Na_moveDown 74 rfl)) ?_
  refine zd_ac (ok_iload (l := l) (B := B) (y := m_Na_moveDown) (pc := 132) (zd_dr dc_Na_moveDown 75 rfl)) ?_
  refine zd_ac (ok_iload_n (l := l) (B := B) (y := m_Na_moveDown) (pc := 134) (k := 2) rfl (zd_dr dc_Na_moveDown 76 rfl)) ?_
  refine zd_ac (ok_isub (l := l) (B := B) (y := m_Na_moveDown) (pc := 135) (zd_dr dc_Na_moveDown 77 rfl)) ?_
  refine zd_ac (ok_aload_n (l := l) (B := B) (y := m_Na_moveDown) (pc := 136) (k := 0) rfl (zd_dr dc_Na_moveDown 78 rfl)) ?_
  refine zd_ac (ok_getf (l := l) (B := B) (y := m_Na_moveDown) (pc := 137) hG (C := zR4) (T := zT4) (N := 2) (ci := 4) (k := 0) rfl zl4 (by decide) (List.mem_of_getElem? (i := 96) (by decide +kernel)) (zd_dr dc_Na_moveDown 79 rfl)) ?_
  refine zd_ac (ok_iload (l := l) (B := B) (y := m_Na_moveDown) (pc := 140) (zd_dr dc_Na_moveDown 80 rfl)) ?_
  refine zd_ac (ok_iaload (l := l) (B := B) (y := m_Na_moveDown) (pc := 142) hG (zd_dr dc_Na_moveDown 81 rfl)) ?_
  refine zd_ac (ok_iload_n (l := l) (B := B) (y := m_Na_moveDown) (pc := 143) (k := 3) rfl (zd_dr dc_Na_moveDown 82 rfl)) ?_
  refine zd_ac (ok_idiv (l := l) (B := B) (y := m_Na_moveDown) (pc := 144) (zd_dr dc_Na_moveDown 83 rfl)) ?_
  refine zd_ac (ok_iload (l := l) (B := B) (y := m_Na_moveDown) (pc := 145) (zd_dr dc_Na_moveDown 84 rfl)) ?_
  refine zd_ac (ok_iload_n (l := l) (B := B) (y := m_Na_moveDown) (pc := 147) (k := 3) rfl (zd_dr dc_Na_moveDown 85 rfl)) ?_
  refine zd_ac (ok_irem (l := l) (B := B) (y := m_Na_moveDown) (pc := 148) (zd_dr dc_Na_moveDown 86 rfl)) ?_
  refine zd_ac (ok_iload (l := l) (B := B) (y := m_Na_moveDown) (pc := 149) (zd_dr dc_Na_moveDown 87 rfl)) ?_
  refine zd_ac (ok_imul (l := l) (B := B) (y := m_Na_moveDown) (pc := 151) (zd_dr dc_Na_moveDown 88 rfl)) ?_
  refine zd_ac (ok_iadd (l := l) (B := B) (y := m_Na_moveDown) (pc := 152) (zd_dr dc_Na_moveDown 89 rfl)) ?_
  refine zd_ac (ok_iastore (l := l) (B := B) (y := m_Na_moveDown) (pc := 153) hG (zd_dr dc_Na_moveDown 90 rfl)) ?_
  refine zd_ac (ok_iinc (l := l) (B := B) (y := m_Na_moveDown) (pc := 154) (zd_dr dc_Na_moveDown 91 rfl) (by decide) rfl) ?_
  refine zd_ac (ok_goto (l := l) (B := B) (y := m_Na_moveDown) (pc := 157) (zd_dr dc_Na_moveDown 92 rfl) (by decide)) ?_
  refine zd_ac (ok_aload_n (l := l) (B := B) (y := m_Na_moveDown) (pc := 160) (k := 0) rfl (zd_dr dc_Na_moveDown 93 rfl)) ?_
  refine zd_ac (ok_dup (l := l) (B := B) (y := m_Na_moveDown) (pc := 161) (zd_dr dc_Na_moveDown 94 rfl)) ?_
  refine zd_ac (ok_getf (l := l) (B := B) (y := m_Na_moveDown) (pc := 162) hG (C := zR4) (T := zT4) (N := 2) (ci := 4) (k := 1) rfl zl4 (by decide) (List.mem_of_getElem? (i := 98) (by decide +kernel)) (zd_dr dc_Na_moveDown 95 rfl)) ?_
  refine zd_ac (ok_iload_n (l := l) (B := B) (y := m_Na_moveDown) (pc := 165) (k := 2) rfl (zd_dr dc_Na_moveDown 96 rfl)) ?_
  refine zd_ac (ok_isub (l := l) (B := B) (y := m_Na_moveDown) (pc := 166) (zd_dr dc_Na_moveDown 97 rfl)) ?_
  refine zd_ac (ok_putf (l := l) (B := B) (y := m_Na_moveDown) (pc := 167) hG (C := zR4) (T := zT4) (N := 2) (ci := 4) (k := 1) rfl zl4 zt4 (by decide) (List.mem_of_getElem? (i := 98) (by decide +kernel)) rfl (zd_dr dc_Na_moveDown 98 rfl)) ?_
  refine zd_ac (ok_aload_n (l := l) (B := B) (y := m_Na_moveDown) (pc := 170) (k := 0) rfl (zd_dr dc_Na_moveDown 99 rfl)) ?_
  refine zd_ac (ok_callv (l := l) (B := B) (y := m_Na_moveDown) (pc := 171) hG (ci := 4) rfl cf_Na_moveDown_Na_trim rfl (List.mem_of_getElem? (i := 505) (by decide +kernel)) (List.mem_of_getElem? (i := 455) (by decide +kernel)) (List.mem_of_getElem? (i := 456) (by decide +kernel)) (zd_dr dc_Na_moveDown 100 rfl)) ?_
  refine zd_ac (ok_iload (l := l) (B := B) (y := m_Na_moveDown) (pc := 174) (zd_dr dc_Na_moveDown 101 rfl)) ?_
  refine zd_ac (ok_iret (l := l) (B := B) (y := m_Na_moveDown) (pc := 176) rfl (zd_dr dc_Na_moveDown 102 rfl)) ?_
  exact zd_an
def dl_Na_raiseBy : List (Nat × Instr × Nat) := [(0, .aload_n 0, 1), (1, .getfield 15, 3), (4, .aload_n 1, 1), (5, .getfield 15, 3), (8, .invokestatic 62, 3), (11, .istore_n 2, 1), (12, .aload_n 0, 1), (13, .getfield 15, 3), (16, .istore_n 3, 1), (17, .aload_n 0, 1), (18, .iload_n 2, 1), (19, .iconst (1), 1), (20, .iadd, 1), (21, .invokevirtual 35, 3), (24, .iconst (0), 1), (25, .istore 4, 2), (27, .iconst (0), 1), (28, .istore 5, 2), (30, .iload 5, 2), (32, .iload_n 2, 1), (33, .if_icmp .ge (89), 3), (36, .iload 4, 2), (38, .iload 5, 2), (40, .iload_n 3, 1), (41, .if_icmp .ge (13), 3), (44, .aload_n 0, 1), (45, .getfield 9, 3), (48, .iload 5, 2), (50, .iaload, 1), (51, .goto (4), 3), (54, .iconst (0), 1), (55, .iadd, 1), (56, .ldc 57, 2), (58, .isub, 1), (59, .iload 5, 2), (61, .aload_n 1, 1), (62, .getfield 15, 3), (65, .if_icmp .ge (13), 3), (68, .aload_n 1, 1), (69, .getfield 9, 3), (72, .iload 5, 2), (74, .iaload, 1), (75, .goto (4), 3), (78, .iconst (0), 1), (79, .iadd, 1), (80, .istore 6, 2), (82, .iload 6, 2), (84, .ifCond .lt (7), 3), (87, .iconst (1), 1), (88, .goto (4), 3), (91, .iconst (0), 1), (92, .istore 4, 2), (94, .aload_n 0, 1), (95, .getfield 9, 3), (98, .iload 5, 2), (100, .iload 6, 2), (102, .ifCond .lt (8), 3), (105, .iload 6, 2), (107, .goto (8), 3), (110, .iload 6, 2), (112, .ldc 57, 2), (114, .iadd, 1), (115, .iastore, 1), (116, .iinc 5 (1), 3), (119, .goto (-89), 3), (122, .aload_n 0, 1), (123, .getfield 9, 3), (126, .iload_n 2, 1), (127, .iload 4, 2), (129, .iastore, 1), (130, .aload_n 0, 1), (131, .invokevirtual 47, 3), (134, .return_, 1)]
theorem dc_Na_raiseBy : ∀ q ∈ dl_Na_raiseBy, decode (zd_yb m_Na_raiseBy) q.1 = .ok q.2 := by decide +kernel
def cd_Na_raiseBy (l : Launch) (B : zd_B) : List (Nat × zd_S) := [(0, oc_aload 0 1), (1, oc_getf B 4 1 4), (4, oc_aload 1 5), (5, oc_getf B 4 1 8), (8, oc_calls l B m_Ma_max 2 11), (11, oc_istore 2 12), (12, oc_aload 0 13), (13, oc_getf B 4 1 16), (16, oc_istore 3 17), (17, oc_aload 0 18), (18, oc_iload 2 19), (19, oc_ci (1) 20), (20, oc_iadd 21), (21, oc_callv l B 4 m_Na_claim 1 24), (24, oc_ci (0) 25), (25, oc_istore 4 27), (27, oc_ci (0) 28), (28, oc_istore 5 30), (30, oc_iload 5 32), (32, oc_iload 2 33), (33, oc_icmp_ge 122 36), (36, oc_iload 4 38), (38, oc_iload 5 40), (40, oc_iload 3 41), (41, oc_icmp_ge 54 44), (44, oc_aload 0 45), (45, oc_getf B 4 0 48), (48, oc_iload 5 50), (50, oc_iaload B 51), (51, oc_goto 55), (54, oc_ci (0) 55), (55, oc_iadd 56), (56, oc_ci (1000000000) 58), (58, oc_isub 59), (59, oc_iload 5 61), (61, oc_aload 1 62), (62, oc_getf B 4 1 65), (65, oc_icmp_ge 78 68), (68, oc_aload 1 69), (69, oc_getf B 4 0 72), (72, oc_iload 5 74), (74, oc_iaload B 75), (75, oc_goto 79), (78, oc_ci (0) 79), (79, oc_iadd 80), (80, oc_istore 6 82), (82, oc_iload 6 84), (84, oc_if_lt 91 87), (87, oc_ci (1) 88), (88, oc_goto 92), (91, oc_ci (0) 92), (92, oc_istore 4 94), (94, oc_aload 0 95), (95, oc_getf B 4 0 98), (98, oc_iload 5 100), (100, oc_iload 6 102), (102, oc_if_lt 110 105), (105, oc_iload 6 107), (107, oc_goto 115), (110, oc_iload 6 112), (112, oc_ci (1000000000) 114), (114, oc_iadd 115), (115, oc_iastore B 116), (116, oc_iinc 5 (1) 119), (119, oc_goto 30), (122, oc_aload 0 123), (123, oc_getf B 4 0 126), (126, oc_iload 2 127), (127, oc_iload 4 129), (129, oc_iastore B 130), (130, oc_aload 0 131), (131, oc_callv l B 4 m_Na_trim 0 134), (134, oc_vret)]
set_option maxRecDepth 20000 in
theorem ok_Na_raiseBy {l : Launch} {B : zd_B} (hG : zd_G B) (hl : l.stackTraces = false) : ∀ q ∈ cd_Na_raiseBy l B, zd_ok l B m_Na_raiseBy q.1 q.2 := by
  unfold cd_Na_raiseBy
  refine zd_ac (ok_aload_n (l := l) (B := B) (y := m_Na_raiseBy) (pc := 0) (k := 0) rfl (zd_dr dc_Na_raiseBy 0 rfl)) ?_
  refine zd_ac (ok_getf (l := l) (B := B) (y := m_Na_raiseBy) (pc := 1) hG (C := zR4) (T := zT4) (N := 2) (ci := 4) (k := 1) rfl zl4 (by decide) (List.mem_of_getElem? (i := 98) (by decide +kernel)) (zd_dr dc_Na_raiseBy 1 rfl)) ?_
  refine zd_ac (ok_aload_n (l := l) (B := B) (y := m_Na_raiseBy) (pc := 4) (k := 1) rfl (zd_dr dc_Na_raiseBy 2 rfl)) ?_
  refine zd_ac (ok_getf (l := l) (B := B) (y := m_Na_raiseBy) (pc := 5) hG (C := zR4) (T := zT4) (N := 2) (ci := 4) (k := 1) rfl zl4 (by decide) (List.mem_of_getElem? (i := 98) (by decide +kernel)) (zd_dr dc_Na_raiseBy 3 rfl)) ?_
  refine zd_ac (ok_calls (l := l) (B := B) (y := m_Na_raiseBy) (pc := 8) hG cf_Na_raiseBy_Ma_max rfl (List.mem_of_getElem? (i := 560) (by decide +kernel)) (List.mem_of_getElem? (i := 524) (by decide +kernel)) (List.mem_of_getElem? (i := 72) (by decide +kernel)) (zd_dr dc_Na_raiseBy 4 rfl)) ?_
  refine zd_ac (ok_istore_n (l := l) (B := B) (y := m_Na_raiseBy) (pc := 11) (k := 2) rfl (zd_dr dc_Na_raiseBy 5 rfl) (by decide)) ?_
  refine zd_ac (ok_aload_n (l := l) (B := B) (y := m_Na_raiseBy) (pc := 12) (k := 0) rfl (zd_dr dc_Na_raiseBy 6 rfl)) ?_
  refine zd_ac (ok_getf (l := l) (B := B) (y := m_Na_raiseBy) (pc := 13) hG (C := zR4) (T := zT4) (N := 2) (ci := 4) (k := 1) rfl zl4 (by decide) (List.mem_of_getElem? (i := 98) (by decide +kernel)) (zd_dr dc_Na_raiseBy 7 rfl)) ?_
  refine zd_ac (ok_istore_n (l := l) (B := B) (y := m_Na_raiseBy) (pc := 16) (k := 3) rfl (zd_dr dc_Na_raiseBy 8 rfl) (by decide)) ?_
  refine zd_ac (ok_aload_n (l := l) (B := B) (y := m_Na_raiseBy) (pc := 17) (k := 0) rfl (zd_dr dc_Na_raiseBy 9 rfl)) ?_
  refine zd_ac (ok_iload_n (l := l) (B := B) (y := m_Na_raiseBy) (pc := 18) (k := 2) rfl (zd_dr dc_Na_raiseBy 10 rfl)) ?_
  refine zd_ac (ok_iconst (l := l) (B := B) (y := m_Na_raiseBy) (pc := 19) (n := (1)) (zd_dr dc_Na_raiseBy 11 rfl) rfl) ?_
  refine zd_ac (ok_iadd (l := l) (B := B) (y := m_Na_raiseBy) (pc := 20) (zd_dr dc_Na_raiseBy 12 rfl)) ?_
  refine zd_ac (ok_callv (l := l) (B := B) (y := m_Na_raiseBy) (pc := 21) hG (ci := 4) rfl cf_Na_raiseBy_Na_claim rfl (List.mem_of_getElem? (i := 441) (by decide +kernel)) (List.mem_of_getElem? (i := 442) (by decide +kernel)) (List.mem_of_getElem? (i := 443) (by decide +kernel)) (zd_dr dc_Na_raiseBy 13 rfl)) ?_
  refine zd_ac (ok_iconst (l := l) (B := B) (y := m_Na_raiseBy) (pc := 24) (n := (0)) (zd_dr dc_Na_raiseBy 14 rfl) rfl) ?_
  refine zd_ac (ok_istore (l := l) (B := B) (y := m_Na_raiseBy) (pc := 25) (zd_dr dc_Na_raiseBy 15 rfl) (by decide)) ?_
  refine zd_ac (ok_iconst (l := l) (B := B) (y := m_Na_raiseBy) (pc := 27) (n := (0)) (zd_dr dc_Na_raiseBy 16 rfl) rfl) ?_
  refine zd_ac (ok_istore (l := l) (B := B) (y := m_Na_raiseBy) (pc := 28) (zd_dr dc_Na_raiseBy 17 rfl) (by decide)) ?_
  refine zd_ac (ok_iload (l := l) (B := B) (y := m_Na_raiseBy) (pc := 30) (zd_dr dc_Na_raiseBy 18 rfl)) ?_
  refine zd_ac (ok_iload_n (l := l) (B := B) (y := m_Na_raiseBy) (pc := 32) (k := 2) rfl (zd_dr dc_Na_raiseBy 19 rfl)) ?_
  refine zd_ac (ok_icmp_ge (l := l) (B := B) (y := m_Na_raiseBy) (pc := 33) (zd_dr dc_Na_raiseBy 20 rfl) (by decide)) ?_
  refine zd_ac (ok_iload (l := l) (B := B) (y := m_Na_raiseBy) (pc := 36) (zd_dr dc_Na_raiseBy 21 rfl)) ?_
  refine zd_ac (ok_iload (l := l) (B := B) (y := m_Na_raiseBy) (pc := 38) (zd_dr dc_Na_raiseBy 22 rfl)) ?_
  refine zd_ac (ok_iload_n (l := l) (B := B) (y := m_Na_raiseBy) (pc := 40) (k := 3) rfl (zd_dr dc_Na_raiseBy 23 rfl)) ?_
  refine zd_ac (ok_icmp_ge (l := l) (B := B) (y := m_Na_raiseBy) (pc := 41) (zd_dr dc_Na_raiseBy 24 rfl) (by decide)) ?_
  refine zd_ac (ok_aload_n (l := l) (B := B) (y := m_Na_raiseBy) (pc := 44) (k := 0) rfl (zd_dr dc_Na_raiseBy 25 rfl)) ?_
  refine zd_ac (ok_getf (l := l) (B := B) (y := m_Na_raiseBy) (pc := 45) hG (C := zR4) (T := zT4) (N := 2) (ci := 4) (k := 0) rfl zl4 (by decide) (List.mem_of_getElem? (i := 96) (by decide +kernel)) (zd_dr dc_Na_raiseBy 26 rfl)) ?_
  refine zd_ac (ok_iload (l := l) (B := B) (y := m_Na_raiseBy) (pc := 48) (zd_dr dc_Na_raiseBy 27 rfl)) ?_
  refine zd_ac (ok_iaload (l := l) (B := B) (y := m_Na_raiseBy) (pc := 50) hG (zd_dr dc_Na_raiseBy 28 rfl)) ?_
  refine zd_ac (ok_goto (l := l) (B := B) (y := m_Na_raiseBy) (pc := 51) (zd_dr dc_Na_raiseBy 29 rfl) (by decide)) ?_
  refine zd_ac (ok_iconst (l := l) (B := B) (y := m_Na_raiseBy) (pc := 54) (n := (0)) (zd_dr dc_Na_raiseBy 30 rfl) rfl) ?_
  refine zd_ac (ok_iadd (l := l) (B := B) (y := m_Na_raiseBy) (pc := 55) (zd_dr dc_Na_raiseBy 31 rfl)) ?_
  refine zd_ac (ok_ldc (l := l) (B := B) (y := m_Na_raiseBy) (pc := 56) hG (List.mem_of_getElem? (i := 544) (by decide +kernel)) (zd_dr dc_Na_raiseBy 32 rfl)) ?_
  refine zd_ac (ok_isub (l := l) (B := B) (y := m_Na_raiseBy) (pc := 58) (zd_dr dc_Na_raiseBy 33 rfl)) ?_
  refine zd_ac (ok_iload (l := l) (B := B) (y := m_Na_raiseBy) (pc := 59) (zd_dr dc_Na_raiseBy 34 rfl)) ?_
  refine zd_ac (ok_aload_n (l := l) (B := B) (y := m_Na_raiseBy) (pc := 61) (k := 1) rfl (zd_dr dc_Na_raiseBy 35 rfl)) ?_
  refine zd_ac (ok_getf (l := l) (B := B) (y := m_Na_raiseBy) (pc := 62) hG (C := zR4) (T := zT4) (N := 2) (ci := 4) (k := 1) rfl zl4 (by decide) (List.mem_of_getElem? (i := 98) (by decide +kernel)) (zd_dr dc_Na_raiseBy 36 rfl)) ?_
  refine zd_ac (ok_icmp_ge (l := l) (B := B) (y := m_Na_raiseBy) (pc := 65) (zd_dr dc_Na_raiseBy 37 rfl) (by decide)) ?_
  refine zd_ac (ok_aload_n (l := l) (B := B) (y := m_Na_raiseBy) (pc := 68) (k := 1) rfl (zd_dr dc_Na_raiseBy 38 rfl)) ?_
  refine zd_ac (ok_getf (l := l) (B := B) (y := m_Na_raiseBy) (pc := 69) hG (C := zR4) (T := zT4) (N := 2) (ci := 4) (k := 0) rfl zl4 (by decide) (List.mem_of_getElem? (i := 96) (by decide +kernel)) (zd_dr dc_Na_raiseBy 39 rfl)) ?_
  refine zd_ac (ok_iload (l := l) (B := B) (y := m_Na_raiseBy) (pc := 72) (zd_dr dc_Na_raiseBy 40 rfl)) ?_
  refine zd_ac (ok_iaload (l := l) (B := B) (y := m_Na_raiseBy) (pc := 74) hG (zd_dr dc_Na_raiseBy 41 rfl)) ?_
  refine zd_ac (ok_goto (l := l) (B := B) (y := m_Na_raiseBy) (pc := 75) (zd_dr dc_Na_raiseBy 42 rfl) (by decide)) ?_
  refine zd_ac (ok_iconst (l := l) (B := B) (y := m_Na_raiseBy) (pc := 78) (n := (0)) (zd_dr dc_Na_raiseBy 43 rfl) rfl) ?_
  refine zd_ac (ok_iadd (l := l) (B := B) (y := m_Na_raiseBy) (pc := 79) (zd_dr dc_Na_raiseBy 44 rfl)) ?_
  refine zd_ac (ok_istore (l := l) (B := B) (y := m_Na_raiseBy) (pc := 80) (zd_dr dc_Na_raiseBy 45 rfl) (by decide)) ?_
  refine zd_ac (ok_iload (l := l) (B := B) (y := m_Na_raiseBy) (pc := 82) (zd_dr dc_Na_raiseBy 46 rfl)) ?_
  refine zd_ac (ok_if_lt (l := l) (B := B) (y := m_Na_raiseBy) (pc := 84) (zd_dr dc_Na_raiseBy 47 rfl) (by decide)) ?_
  refine zd_ac (ok_iconst (l := l) (B := B) (y := m_Na_raiseBy) (pc := 87) (n := (1)) (zd_dr dc_Na_raiseBy 48 rfl) rfl) ?_
  refine zd_ac (ok_goto (l := l) (B := B) (y := m_Na_raiseBy) (pc := 88) (zd_dr dc_Na_raiseBy 49 rfl) (by decide)) ?_
  refine zd_ac (ok_iconst (l := l) (B := B) (y := m_Na_raiseBy) (pc := 91) (n := (0)) (zd_dr dc_Na_raiseBy 50 rfl) rfl) ?_
  refine zd_ac (ok_istore (l := l) (B := B) (y := m_Na_raiseBy) (pc := 92) (zd_dr dc_Na_raiseBy 51 rfl) (by decide)) ?_
  refine zd_ac (ok_aload_n (l := l) (B := B) (y := m_Na_raiseBy) (pc := 94) (k := 0) rfl (zd_dr dc_Na_raiseBy 52 rfl)) ?_
  refine zd_ac (ok_getf (l := l) (B := B) (y := m_Na_raiseBy) (pc := 95) hG (C := zR4) (T := zT4) (N := 2) (ci := 4) (k := 0) rfl zl4 (by decide) (List.mem_of_getElem? (i := 96) (by decide +kernel)) (zd_dr dc_Na_raiseBy 53 rfl)) ?_
  refine zd_ac (ok_iload (l := l) (B := B) (y := m_Na_raiseBy) (pc := 98) (zd_dr dc_Na_raiseBy 54 rfl)) ?_
  refine zd_ac (ok_iload (l := l) (B := B) (y := m_Na_raiseBy) (pc := 100) (zd_dr dc_Na_raiseBy 55 rfl)) ?_
  refine zd_ac (ok_if_lt (l := l) (B := B) (y := m_Na_raiseBy) (pc := 102) (zd_dr dc_Na_raiseBy 56 rfl) (by decide)) ?_
  refine zd_ac (ok_iload (l := l) (B := B) (y := m_Na_raiseBy) (pc := 105) (zd_dr dc_Na_raiseBy 57 rfl)) ?_
  refine zd_ac (ok_goto (l := l) (B := B) (y := m_Na_raiseBy) (pc := 107) (zd_dr dc_Na_raiseBy 58 rfl) (by decide)) ?_
  refine zd_ac (ok_iload (l := l) (B := B) (y := m_Na_raiseBy) (pc := 110) (zd_dr dc_Na_raiseBy 59 rfl)) ?_
  refine zd_ac (ok_ldc (l := l) (B := B) (y := m_Na_raiseBy) (pc := 112) hG (List.mem_of_getElem? (i := 544) (by decide +kernel)) (zd_dr dc_Na_raiseBy 60 rfl)) ?_
  refine zd_ac (ok_iadd (l := l) (B := B) (y := m_Na_raiseBy) (pc := 114) (zd_dr dc_Na_raiseBy 61 rfl)) ?_
  refine zd_ac (ok_iastore (l := l) (B := B) (y := m_Na_raiseBy) (pc := 115) hG (zd_dr dc_Na_raiseBy 62 rfl)) ?_
  refine zd_ac (ok_iinc (l := l) (B := B) (y := m_Na_raiseBy) (pc := 116) (zd_dr dc_Na_raiseBy 63 rfl) (by decide) rfl) ?_
  refine zd_ac (ok_goto (l := l) (B := B) (y := m_Na_raiseBy) (pc := 119) (zd_dr dc_Na_raiseBy 64 rfl) (by decide)) ?_
  refine zd_ac (ok_aload_n (l := l) (B := B) (y := m_Na_raiseBy) (pc := 122) (k := 0) rfl (zd_dr dc_Na_raiseBy 65 rfl)) ?_
  refine zd_ac (ok_getf (l := l) (B := B) (y := m_Na_raiseBy) (pc := 123) hG (C := zR4) (T := zT4) (N := 2) (ci := 4) (k := 0) rfl zl4 (by decide) (List.mem_of_getElem? (i := 96) (by decide +kernel)) (zd_dr dc_Na_raiseBy 66 rfl)) ?_
  refine zd_ac (ok_iload_n (l := l) (B := B) (y := m_Na_raiseBy) (pc := 126) (k := 2) rfl (zd_dr dc_Na_raiseBy 67 rfl)) ?_
  refine zd_ac (ok_iload (l := l) (B := B) (y := m_Na_raiseBy) (pc := 127) (zd_dr dc_Na_raiseBy 68 rfl)) ?_
  refine zd_ac (ok_iastore (l := l) (B := B) (y := m_Na_raiseBy) (pc := 129) hG (zd_dr dc_Na_raiseBy 69 rfl)) ?_
  refine zd_ac (ok_aload_n (l := l) (B := B) (y := m_Na_raiseBy) (pc := 130) (k := 0) rfl (zd_dr dc_Na_raiseBy 70 rfl)) ?_
  refine zd_ac (ok_callv (l := l) (B := B) (y := m_Na_raiseBy) (pc := 131) hG (ci := 4) rfl cf_Na_raiseBy_Na_trim rfl (List.mem_of_getElem? (i := 505) (by decide +kernel)) (List.mem_of_getElem? (i := 455) (by decide +kernel)) (List.mem_of_getElem? (i := 456) (by decide +kernel)) (zd_dr dc_Na_raiseBy 71 rfl)) ?_
  refine zd_ac (ok_vret (l := l) (B := B) (y := m_Na_raiseBy) (pc := 134) rfl (zd_dr dc_Na_raiseBy 72 rfl)) ?_
  exact zd_an
def dl_Na_lowerBy : List (Nat × Instr × Nat) := [(0, .iconst (0), 1), (1, .istore_n 2, 1), (2, .iconst (0), 1), (3, .istore_n 3, 1), (4, .iload_n 3, 1), (5, .aload_n 0, 1), (6, .getfield 15, 3), (9, .if_icmp .ge (70), 3), (12, .aload_n 0, 1), (13, .getfield 9, 3), (16, .iload_n 3, 1), (17, .iaload, 1), (18, .iload_n 2, 1), (19, .isub, 1), (20, .iload_n 3, 1), (21, .aload_n 1, 1), (22, .getfield 15, 3), (25, .if_icmp .ge (12), 3), (28, .aload_n 1, 1), (29, .getfield 9, 3), (32, .iload_n 3, 1), (33, .iaload, 1), (34, .goto (4), 3), (37, .iconst (0), 1), (38, .isub, 1), (39, .istore 4, 2), (41, .iload 4, 2), (43, .ifCond .ge (7), 3), (46, .iconst (1), 1), (47, .goto (4), 3), (50, .iconst (0), 1), (51, .istore_n 2, 1), (52, .aload_n 0, 1), (53, .getfield 9, 3), (56, .iload_n 3, 1), (57, .iload 4, 2), (59, .ifCond .ge (11), 3), (62, .iload 4, 2), (64, .ldc 57, 2), (66, .iadd, 1), (67, .goto (5), 3), (70, .iload 4, 2), (72, .iastore, 1), (73, .iinc 3 (1), 3), (76, .goto (-72), 3), (79, .aload_n 0, 1), (80, .invokevirtual 47, 3), (83, .return_, 1)]
theorem dc_Na_lowerBy : ∀ q ∈ dl_Na_lowerBy, decode (zd_yb m_Na_lowerBy) q.1 = .ok q.2 := by decide +kernel
def cd_Na_lowerBy (l : Launch) (B : zd_B) : List (Nat × zd_S) := [(0, oc_ci (0) 1), (1, oc_istore 2 2), (2, oc_ci (0) 3), (3, oc_istore 3 4), (4, oc_iload 3 5), (5, oc_aload 0 6), (6, oc_getf B 4 1 9), (9, oc_icmp_ge 79 12), (12, oc_aload 0 13), (13, oc_getf B 4 0 16), (16, oc_iload 3 17), (17, oc_iaload B 18), (18, oc_iload 2 19), (19, oc_isub 20), (20, oc_iload 3 21), (21, oc_aload 1 22), (22, oc_getf B 4 1 25), (25, oc_icmp_ge 37 28), (28, oc_aload 1 29), (29, oc_getf B 4 0 32), (32, oc_iload 3 33), (33, oc_iaload B 34), (34, oc_goto 38), (37, oc_ci (0) 38), (38, oc_isub 39), (39, oc_istore 4 41), (41, oc_iload 4 43), (43, oc_if_ge 50 46), (46, oc_ci (1) 47), (47, oc_goto 51), (50, oc_ci (0) 51), (51, oc_istore 2 52), (52, oc_aload 0 53), (53, oc_getf B 4 0 56), (56, oc_iload 3 57), (57, oc_iload 4 59), (59, oc_if_ge 70 62), (62, oc_iload 4 64), (64, oc_ci (1000000000) 66), (66, oc_iadd 67), (67, oc_goto 72), (70, oc_iload 4 72), (72, oc_iastore B 73), (73, oc_iinc 3 (1) 76), (76, oc_goto 4), (79, oc_aload 0 80), (80, oc_callv l B 4 m_Na_trim 0 83), (83, oc_vret)]
set_option maxRecDepth 20000 in
theorem ok_Na_lowerBy {l : Launch} {B : zd_B} (hG : zd_G B) (hl : l.stackTraces = false) : ∀ q ∈ cd_Na_lowerBy l B, zd_ok l B m_Na_lowerBy q.1 q.2 := by
  unfold cd_Na_lowerBy
  refine zd_ac (ok_iconst (l := l) (B := B) (y := m_Na_lowerBy) (pc := 0) (n := (0)) (zd_dr dc_Na_lowerBy 0 rfl) rfl) ?_
  refine zd_ac (ok_istore_n (l := l) (B := B) (y := m_Na_lowerBy) (pc := 1) (k := 2) rfl (zd_dr dc_Na_lowerBy 1 rfl) (by decide)) ?_
  refine zd_ac (ok_iconst (l := l) (B := B) (y := m_Na_lowerBy) (pc := 2) (n := (0)) (zd_dr dc_Na_lowerBy 2 rfl) rfl) ?_
  refine zd_ac (ok_istore_n (l := l) (B := B) (y := m_Na_lowerBy) (pc := 3) (k := 3) rfl (zd_dr dc_Na_lowerBy 3 rfl) (by decide)) ?_
  refine zd_ac (ok_iload_n (l := l) (B := B) (y := m_Na_lowerBy) (pc := 4) (k := 3) rfl (zd_dr dc_Na_lowerBy 4 rfl)) ?_
  refine zd_ac (ok_aload_n (l := l) (B := B) (y := m_Na_lowerBy) (pc := 5) (k := 0) rfl (zd_dr dc_Na_lowerBy 5 rfl)) ?_
  refine zd_ac (ok_getf (l := l) (B := B) (y := m_Na_lowerBy) (pc := 6) hG (C := zR4) (T := zT4) (N := 2) (ci := 4) (k := 1) rfl zl4 (by decide) (List.mem_of_getElem? (i := 98) (by decide +kernel)) (zd_dr dc_Na_lowerBy 6 rfl)) ?_
  refine zd_ac (ok_icmp_ge (l := l) (B := B) (y := m_Na_lowerBy) (pc := 9) (zd_dr dc_Na_lowerBy 7 rfl) (by decide)) ?_
  refine zd_ac (ok_aload_n (l := l) (B := B) (y := m_Na_lowerBy) (pc := 12) (k := 0) rfl (zd_dr dc_Na_lowerBy 8 rfl)) ?_
  refine zd_ac (ok_getf (l := l) (B := B) (y := m_Na_lowerBy) (pc := 13) hG (C := zR4) (T := zT4) (N := 2) (ci := 4) (k := 0) rfl zl4 (by decide) (List.mem_of_getElem? (i := 96) (by decide +kernel)) (zd_dr dc_Na_lowerBy 9 rfl)) ?_
  refine zd_ac (ok_iload_n (l := l) (B := B) (y := m_Na_lowerBy) (pc := 16) (k := 3) rfl (zd_dr dc_Na_lowerBy 10 rfl)) ?_
  refine zd_ac (ok_iaload (l := l) (B := B) (y := m_Na_lowerBy) (pc := 17) hG (zd_dr dc_Na_lowerBy 11 rfl)) ?_
  refine zd_ac (ok_iload_n (l := l) (B := B) (y := m_Na_lowerBy) (pc := 18) (k := 2) rfl (zd_dr dc_Na_lowerBy 12 rfl)) ?_
  refine zd_ac (ok_isub (l := l) (B := B) (y := m_Na_lowerBy) (pc := 19) (zd_dr dc_Na_lowerBy 13 rfl)) ?_
  refine zd_ac (ok_iload_n (l := l) (B := B) (y := m_Na_lowerBy) (pc := 20) (k := 3) rfl (zd_dr dc_Na_lowerBy 14 rfl)) ?_
  refine zd_ac (ok_aload_n (l := l) (B := B) (y := m_Na_lowerBy) (pc := 21) (k := 1) rfl (zd_dr dc_Na_lowerBy 15 rfl)) ?_
  refine zd_ac (ok_getf (l := l) (B := B) (y := m_Na_lowerBy) (pc := 22) hG (C := zR4) (T := zT4) (N := 2) (ci := 4) (k := 1) rfl zl4 (by decide) (List.mem_of_getElem? (i := 98) (by decide +kernel)) (zd_dr dc_Na_lowerBy 16 rfl)) ?_
  refine zd_ac (ok_icmp_ge (l := l) (B := B) (y := m_Na_lowerBy) (pc := 25) (zd_dr dc_Na_lowerBy 17 rfl) (by decide)) ?_
  refine zd_ac (ok_aload_n (l := l) (B := B) (y := m_Na_lowerBy) (pc := 28) (k := 1) rfl (zd_dr dc_Na_lowerBy 18 rfl)) ?_
  refine zd_ac (ok_getf (l := l) (B := B) (y := m_Na_lowerBy) (pc := 29) hG (C := zR4) (T := zT4) (N := 2) (ci := 4) (k := 0) rfl zl4 (by decide) (List.mem_of_getElem? (i := 96) (by decide +kernel)) (zd_dr dc_Na_lowerBy 19 rfl)) ?_
  refine zd_ac (ok_iload_n (l := l) (B := B) (y := m_Na_lowerBy) (pc := 32) (k := 3) rfl (zd_dr dc_Na_lowerBy 20 rfl)) ?_
  refine zd_ac (ok_iaload (l := l) (B := B) (y := m_Na_lowerBy) (pc := 33) hG (zd_dr dc_Na_lowerBy 21 rfl)) ?_
  refine zd_ac (ok_goto (l := l) (B := B) (y := m_Na_lowerBy) (pc := 34) (zd_dr dc_Na_lowerBy 22 rfl) (by decide)) ?_
  refine zd_ac (ok_iconst (l := l) (B := B) (y := m_Na_lowerBy) (pc := 37) (n := (0)) (zd_dr dc_Na_lowerBy 23 rfl) rfl) ?_
  refine zd_ac (ok_isub (l := l) (B := B) (y := m_Na_lowerBy) (pc := 38) (zd_dr dc_Na_lowerBy 24 rfl)) ?_
  refine zd_ac (ok_istore (l := l) (B := B) (y := m_Na_lowerBy) (pc := 39) (zd_dr dc_Na_lowerBy 25 rfl) (by decide)) ?_
  refine zd_ac (ok_iload (l := l) (B := B) (y := m_Na_lowerBy) (pc := 41) (zd_dr dc_Na_lowerBy 26 rfl)) ?_
  refine zd_ac (ok_if_ge (l := l) (B := B) (y := m_Na_lowerBy) (pc := 43) (zd_dr dc_Na_lowerBy 27 rfl) (by decide)) ?_
  refine zd_ac (ok_iconst (l := l) (B := B) (y := m_Na_lowerBy) (pc := 46) (n := (1)) (zd_dr dc_Na_lowerBy 28 rfl) rfl) ?_
  refine zd_ac (ok_goto (l := l) (B := B) (y := m_Na_lowerBy) (pc := 47) (zd_dr dc_Na_lowerBy 29 rfl) (by decide)) ?_
  refine zd_ac (ok_iconst (l := l) (B := B) (y := m_Na_lowerBy) (pc := 50) (n := (0)) (zd_dr dc_Na_lowerBy 30 rfl) rfl) ?_
  refine zd_ac (ok_istore_n (l := l) (B := B) (y := m_Na_lowerBy) (pc := 51) (k := 2) rfl (zd_dr dc_Na_lowerBy 31 rfl) (by decide)) ?_
  refine zd_ac (ok_aload_n (l := l) (B := B) (y := m_Na_lowerBy) (pc := 52) (k := 0) rfl (zd_dr dc_Na_lowerBy 32 rfl)) ?_
  refine zd_ac (ok_getf (l := l) (B := B) (y := m_Na_lowerBy) (pc := 53) hG (C := zR4) (T := zT4) (N := 2) (ci := 4) (k := 0) rfl zl4 (by decide) (List.mem_of_getElem? (i := 96) (by decide +kernel)) (zd_dr dc_Na_lowerBy 33 rfl)) ?_
  refine zd_ac (ok_iload_n (l := l) (B := B) (y := m_Na_lowerBy) (pc := 56) (k := 3) rfl (zd_dr dc_Na_lowerBy 34 rfl)) ?_
  refine zd_ac (ok_iload (l := l) (B := B) (y := m_Na_lowerBy) (pc := 57) (zd_dr dc_Na_lowerBy 35 rfl)) ?_
  refine zd_ac (ok_if_ge (l := l) (B := B) (y := m_Na_lowerBy) (pc := 59) (zd_dr dc_Na_lowerBy 36 rfl) (by decide)) ?_
  refine zd_ac (ok_iload (l := l) (B := B) (y := m_Na_lowerBy) (pc := 62) (zd_dr dc_Na_lowerBy 37 rfl)) ?_
  refine zd_ac (ok_ldc (l := l) (B := B) (y := m_Na_lowerBy) (pc := 64) hG (List.mem_of_getElem? (i := 544) (by decide +kernel)) (zd_dr dc_Na_lowerBy 38 rfl)) ?_
  refine zd_ac (ok_iadd (l := l) (B := B) (y := m_Na_lowerBy) (pc := 66) (zd_dr dc_Na_lowerBy 39 rfl)) ?_
  refine zd_ac (ok_goto (l := l) (B := B) (y := m_Na_lowerBy) (pc := 67) (zd_dr dc_Na_lowerBy 40 rfl) (by decide)) ?_
  refine zd_ac (ok_iload (l := l) (B := B) (y := m_Na_lowerBy) (pc := 70) (zd_dr dc_Na_lowerBy 41 rfl)) ?_
  refine zd_ac (ok_iastore (l := l) (B := B) (y := m_Na_lowerBy) (pc := 72) hG (zd_dr dc_Na_lowerBy 42 rfl)) ?_
  refine zd_ac (ok_iinc (l := l) (B := B) (y := m_Na_lowerBy) (pc := 73) (zd_dr dc_Na_lowerBy 43 rfl) (by decide) rfl) ?_
  refine zd_ac (ok_goto (l := l) (B := B) (y := m_Na_lowerBy) (pc := 76) (zd_dr dc_Na_lowerBy 44 rfl) (by decide)) ?_
  refine zd_ac (ok_aload_n (l := l) (B := B) (y := m_Na_lowerBy) (pc := 79) (k := 0) rfl (zd_dr dc_Na_lowerBy 45 rfl)) ?_
  refine zd_ac (ok_callv (l := l) (B := B) (y := m_Na_lowerBy) (pc := 80) hG (ci := 4) rfl cf_Na_lowerBy_Na_trim rfl (List.mem_of_getElem? (i := 505) (by decide +kernel)) (List.mem_of_getElem? (i := 455) (by decide +kernel)) (List.mem_of_getElem? (i := 456) (by decide +kernel)) (zd_dr dc_Na_lowerBy 46 rfl)) ?_
  refine zd_ac (ok_vret (l := l) (B := B) (y := m_Na_lowerBy) (pc := 83) rfl (zd_dr dc_Na_lowerBy 47 rfl)) ?_
  exact zd_an
def dl_Na_increment : List (Nat × Instr × Nat) := [(0, .iconst (0), 1), (1, .istore_n 1, 1), (2, .iload_n 1, 1), (3, .aload_n 0, 1), (4, .getfield 15, 3), (7, .if_icmp .ge (27), 3), (10, .aload_n 0, 1), (11, .getfield 9, 3), (14, .iload_n 1, 1), (15, .iaload, 1), (16, .ldc 67, 2), (18, .if_icmp .ne (16), 3), (21, .aload_n 0, 1), (22, .getfield 9, 3), (25, .iload_n 1, 1), (26, .iconst (0), 1), (27, .iastore, 1), (28, .iinc 1 (1), 3), (31, .goto (-29), 3), (34, .iload_n 1, 1), (35, .aload_n 0, 1), (36, .getfield 15, 3), (39, .if_icmp .ge (16), 3), (42, .aload_n 0, 1), (43, .getfield 9, 3), (46, .iload_n 1, 1), (47, .dup2, 1), (48, .iaload, 1), (49, .iconst (1), 1), (50, .iadd, 1), (51, .iastore, 1), (52, .goto (20), 3), (55, .aload_n 0, 1), (56, .aload_n 0, 1), (57, .getfield 15, 3), (60, .iconst (1), 1), (61, .iadd, 1), (62, .invokevirtual 35, 3), (65, .aload_n 0, 1), (66, .getfield 9, 3), (69, .iload_n 1, 1), (70, .iconst (1), 1), (71, .iastore, 1), (72, .return_, 1)]
theorem dc_Na_increment : ∀ q ∈ dl_Na_increment, decode (zd_yb m_Na_increment) q.1 = .ok q.2 := by decide +kernel
def cd_Na_increment (l : Launch) (B : zd_B) : List (Nat × zd_S) := [(0, oc_ci (0) 1), (1, oc_istore 1 2), (2, oc_iload 1 3), (3, oc_aload 0 4), (4, oc_getf B 4 1 7), (7, oc_icmp_ge 34 10), (10, oc_aload 0 11), (11, oc_getf B 4 0 14), (14, oc_iload 1 15), (15, oc_iaload B 16), (16, oc_ci (999999999) 18), (18, oc_icmp_ne 34 21), (21, oc_aload 0 22), (22, oc_getf B 4 0 25), (25, oc_iload 1 26), (26, oc_ci (0) 27), (27, oc_iastore B 28), (28, oc_iinc 1 (1) 31), (31, oc_goto 2), (34, oc_iload 1 35), (35, oc_aload 0 36), (36, oc_getf B 4 1 39), (39, oc_icmp_ge 55 42), (42, oc_aload 0 43), (43, oc_getf B 4 0 46), (46, oc_iload 1 47), (47, oc_dup2 48), (48, oc_iaload B 49), (49, oc_ci (1) 50), (50, oc_iadd 51), (51, oc_iastore B 52), (52, oc_goto 72), (55, oc_aload 0 56), (56, oc_aload 0 57), (57, oc_getf B 4 1 60), (60, oc_ci (1) 61), (61, oc_iadd 62), (62, oc_callv l B 4 m_Na_claim 1 65), (65, oc_aload 0 66), (66, oc_getf B 4 0 69), (69, oc_iload 1 70), (70, oc_ci (1) 71), (71, oc_iastore B 72), (72, oc_vret)]
set_option maxRecDepth 20000 in
theorem ok_Na_increment {l : Launch} {B : zd_B} (hG : zd_G B) (hl : l.stackTraces = false) : ∀ q ∈ cd_Na_increment l B, zd_ok l B m_Na_increment q.1 q.2 := by
  unfold cd_Na_increment
  refine zd_ac (ok_iconst (l := l) (B := B) (y := m_Na_increment) (pc := 0) (n := (0)) (zd_dr dc_Na_increment 0 rfl) rfl) ?_
  refine zd_ac (ok_istore_n (l := l) (B := B) (y := m_Na_increment) (pc := 1) (k := 1) rfl (zd_dr dc_Na_increment 1 rfl) (by decide)) ?_
  refine zd_ac (ok_iload_n (l := l) (B := B) (y := m_Na_increment) (pc := 2) (k := 1) rfl (zd_dr dc_Na_increment 2 rfl)) ?_
  refine zd_ac (ok_aload_n (l := l) (B := B) (y := m_Na_increment) (pc := 3) (k := 0) rfl (zd_dr dc_Na_increment 3 rfl)) ?_
  refine zd_ac (ok_getf (l := l) (B := B) (y := m_Na_increment) (pc := 4) hG (C := zR4) (T := zT4) (N := 2) (ci := 4) (k := 1) rfl zl4 (by decide) (List.mem_of_getElem? (i := 98) (by decide +kernel)) (zd_dr dc_Na_increment 4 rfl)) ?_
  refine zd_ac (ok_icmp_ge (l := l) (B := B) (y := m_Na_increment) (pc := 7) (zd_dr dc_Na_increment 5 rfl) (by decide)) ?_
  refine zd_ac (ok_aload_n (l := l) (B := B) (y := m_Na_increment) (pc := 10) (k := 0) rfl (zd_dr dc_Na_increment 6 rfl)) ?_
  refine zd_ac (ok_getf (l := l) (B := B) (y := m_Na_increment) (pc := 11) hG (C := zR4) (T := zT4) (N := 2) (ci := 4) (k := 0) rfl zl4 (by decide) (List.mem_of_getElem? (i := 96) (by decide +kernel)) (zd_dr dc_Na_increment 7 rfl)) ?_
  refine zd_ac (ok_iload_n (l := l) (B := B) (y := m_Na_increment) (pc := 14) (k := 1) rfl (zd_dr dc_Na_increment 8 rfl)) ?_
  refine zd_ac (ok_iaload (l := l) (B := B) (y := m_Na_increment) (pc := 15) hG (zd_dr dc_Na_increment 9 rfl)) ?_
  refine zd_ac (ok_ldc (l := l) (B := B) (y := m_Na_increment) (pc := 16) hG (List.mem_of_getElem? (i := 663) (by decide +kernel)) (zd_dr dc_Na_increment 10 rfl)) ?_
  refine zd_ac (ok_icmp_ne (l := l) (B := B) (y := m_Na_increment) (pc := 18) (zd_dr dc_Na_increment 11 rfl) (by decide)) ?_
  refine zd_ac (ok_aload_n (l := l) (B := B) (y := m_Na_increment) (pc := 21) (k := 0) rfl (zd_dr dc_Na_increment 12 rfl)) ?_
  refine zd_ac (ok_getf (l := l) (B := B) (y := m_Na_increment) (pc := 22) hG (C := zR4) (T := zT4) (N := 2) (ci := 4) (k := 0) rfl zl4 (by decide) (List.mem_of_getElem? (i := 96) (by decide +kernel)) (zd_dr dc_Na_increment 13 rfl)) ?_
  refine zd_ac (ok_iload_n (l := l) (B := B) (y := m_Na_increment) (pc := 25) (k := 1) rfl (zd_dr dc_Na_increment 14 rfl)) ?_
  refine zd_ac (ok_iconst (l := l) (B := B) (y := m_Na_increment) (pc := 26) (n := (0)) (zd_dr dc_Na_increment 15 rfl) rfl) ?_
  refine zd_ac (ok_iastore (l := l) (B := B) (y := m_Na_increment) (pc := 27) hG (zd_dr dc_Na_increment 16 rfl)) ?_
  refine zd_ac (ok_iinc (l := l) (B := B) (y := m_Na_increment) (pc := 28) (zd_dr dc_Na_increment 17 rfl) (by decide) rfl) ?_
  refine zd_ac (ok_goto (l := l) (B := B) (y := m_Na_increment) (pc := 31) (zd_dr dc_Na_increment 18 rfl) (by decide)) ?_
  refine zd_ac (ok_iload_n (l := l) (B := B) (y := m_Na_increment) (pc := 34) (k := 1) rfl (zd_dr dc_Na_increment 19 rfl)) ?_
  refine zd_ac (ok_aload_n (l := l) (B := B) (y := m_Na_increment) (pc := 35) (k := 0) rfl (zd_dr dc_Na_increment 20 rfl)) ?_
  refine zd_ac (ok_getf (l := l) (B := B) (y := m_Na_increment) (pc := 36) hG (C := zR4) (T := zT4) (N := 2) (ci := 4) (k := 1) rfl zl4 (by decide) (List.mem_of_getElem? (i := 98) (by decide +kernel)) (zd_dr dc_Na_increment 21 rfl)) ?_
  refine zd_ac (ok_icmp_ge (l := l) (B := B) (y := m_Na_increment) (pc := 39) (zd_dr dc_Na_increment 22 rfl) (by decide)) ?_
  refine zd_ac (ok_aload_n (l := l) (B := B) (y := m_Na_increment) (pc := 42) (k := 0) rfl (zd_dr dc_Na_increment 23 rfl)) ?_
  refine zd_ac (ok_getf (l := l) (B := B) (y := m_Na_increment) (pc := 43) hG (C := zR4) (T := zT4) (N := 2) (ci := 4) (k := 0) rfl zl4 (by decide) (List.mem_of_getElem? (i := 96) (by decide +kernel)) (zd_dr dc_Na_increment 24 rfl)) ?_
  refine zd_ac (ok_iload_n (l := l) (B := B) (y := m_Na_increment) (pc := 46) (k := 1) rfl (zd_dr dc_Na_increment 25 rfl)) ?_
  refine zd_ac (ok_dup2 (l := l) (B := B) (y := m_Na_increment) (pc := 47) (zd_dr dc_Na_increment 26 rfl)) ?_
  refine zd_ac (ok_iaload (l := l) (B := B) (y := m_Na_increment) (pc := 48) hG (zd_dr dc_Na_increment 27 rfl)) ?_
  refine zd_ac (ok_iconst (l := l) (B := B) (y := m_Na_increment) (pc := 49) (n := (1)) (zd_dr dc_Na_increment 28 rfl) rfl) ?_
  refine zd_ac (ok_iadd (l := l) (B := B) (y := m_Na_increment) (pc := 50) (zd_dr dc_Na_increment 29 rfl)) ?_
  refine zd_ac (ok_iastore (l := l) (B := B) (y := m_Na_increment) (pc := 51) hG (zd_dr dc_Na_increment 30 rfl)) ?_
  refine zd_ac (ok_goto (l := l) (B := B) (y := m_Na_increment) (pc := 52) (zd_dr dc_Na_increment 31 rfl) (by decide)) ?_
  refine zd_ac (ok_aload_n (l := l) (B := B) (y := m_Na_increment) (pc := 55) (k := 0) rfl (zd_dr dc_Na_increment 32 rfl)) ?_
  refine zd_ac (ok_aload_n (l := l) (B := B) (y := m_Na_increment) (pc := 56) (k := 0) rfl (zd_dr dc_Na_increment 33 rfl)) ?_
  refine zd_ac (ok_getf (l := l) (B := B) (y := m_Na_increment) (pc := 57) hG (C := zR4) (T := zT4) (N := 2) (ci := 4) (k := 1) rfl zl4 (by decide) (List.mem_of_getElem? (i := 98) (by decide +kernel)) (zd_dr dc_Na_increment 34 rfl)) ?_
  refine zd_ac (ok_iconst (l := l) (B := B) (y := m_Na_increment) (pc := 60) (n := (1)) (zd_dr dc_Na_increment 35 rfl) rfl) ?_
  refine zd_ac (ok_iadd (l := l) (B := B) (y := m_Na_increment) (pc := 61) (zd_dr dc_Na_increment 36 rfl)) ?_
  refine zd_ac (ok_callv (l := l) (B := B) (y := m_Na_increment) (pc := 62) hG (ci := 4) rfl cf_Na_increment_Na_claim rfl (List.mem_of_getElem? (i := 441) (by decide +kernel)) (List.mem_of_getElem? (i := 442) (by decide +kernel)) (List.mem_of_getElem? (i := 443) (by decide +kernel)) (zd_dr dc_Na_increment 37 rfl)) ?_
  refine zd_ac (ok_aload_n (l := l) (B := B) (y := m_Na_increment) (pc := 65) (k := 0) rfl (zd_dr dc_Na_increment 38 rfl)) ?_
  refine zd_ac (ok_getf (l := l) (B := B) (y := m_Na_increment) (pc := 66) hG (C := zR4) (T := zT4) (N := 2) (ci := 4) (k := 0) rfl zl4 (by decide) (List.mem_of_getElem? (i := 96) (by decide +kernel)) (zd_dr dc_Na_increment 39 rfl)) ?_
  refine zd_ac (ok_iload_n (l := l) (B := B) (y := m_Na_increment) (pc := 69) (k := 1) rfl (zd_dr dc_Na_increment 40 rfl)) ?_
  refine zd_ac (ok_iconst (l := l) (B := B) (y := m_Na_increment) (pc := 70) (n := (1)) (zd_dr dc_Na_increment 41 rfl) rfl) ?_
  refine zd_ac (ok_iastore (l := l) (B := B) (y := m_Na_increment) (pc := 71) hG (zd_dr dc_Na_increment 42 rfl)) ?_
  refine zd_ac (ok_vret (l := l) (B := B) (y := m_Na_increment) (pc := 72) rfl (zd_dr dc_Na_increment 43 rfl)) ?_
  exact zd_an
def dl_Na_timesSmall : List (Nat × Instr × Nat) := [(0, .lconst 0, 1), (1, .lstore_n 2, 1), (2, .iconst (0), 1), (3, .istore 4, 2), (5, .iload 4, 2), (7, .aload_n 0, 1), (8, .getfield 15, 3), (11, .if_icmp .ge (47), 3), (14, .aload_n 0, 1), (15, .getfield 9, 3), (18, .iload 4, 2), (20, .iaload, 1), (21, .i2l, 1), (22, .iload_n 1, 1), (23, .i2l, 1), (24, .lmul, 1), (25, .lload_n 2, 1), (26, .ladd, 1), (27, .lstore 5, 2), (29, .lload 5, 2), (31, .ldc2_w 45, 3), (34, .ldiv, 1), (35, .lstore_n 2, 1), (36, .aload_n 0, 1), (37, .getfield 9, 3), (40, .iload 4, 2), (42, .lload 5, 2), (44, .lload_n 2, 1), (45, .ldc2_w 45, 3), (48, .lmul, 1), (49, .lsub, 1), (50, .l2i, 1), (51, .iastore, 1), (52, .iinc 4 (1), 3), (55, .goto (-50), 3), (58, .lload_n 2, 1), (59, .lconst 0, 1), (60, .lcmp, 1), (61, .ifCond .le (26), 3), (64, .aload_n 0, 1), (65, .aload_n 0, 1), (66, .getfield 15, 3), (69, .iconst (1), 1), (70, .iadd, 1), (71, .invokevirtual 35, 3), (74, .aload_n 0, 1), (75, .getfield 9, 3), (78, .aload_n 0, 1), (79, .getfield 15, 3), (82, .iconst (1), 1), (83, .isub, 1), (84, .lload_n 2, 1), (85, .l2i, 1), (86, .iastore, 1), (87, .return_, 1)]
theorem dc_Na_timesSmall : ∀ q ∈ dl_Na_timesSmall, decode (zd_yb m_Na_timesSmall) q.1 = .ok q.2 := by decide +kernel
def cd_Na_timesSmall (l : Launch) (B : zd_B) : List (Nat × zd_S) := [(0, oc_cl 0 1), (1, oc_lstore 2 2), (2, oc_ci (0) 3), (3, oc_istore 4 5), (5, oc_iload 4 7), (7, oc_aload 0 8), (8, oc_getf B 4 1 11), (11, oc_icmp_ge 58 14), (14, oc_aload 0 15), (15, oc_getf B 4 0 18), (18, oc_iload 4 20), (20, oc_iaload B 21), (21, oc_i2l 22), (22, oc_iload 1 23), (23, oc_i2l 24), (24, oc_lmul 25), (25, oc_lload 2 26), (26, oc_ladd 27), (27, oc_lstore 5 29), (29, oc_lload 5 31), (31, oc_cl (1000000000) 34), (34, oc_ldiv 35), (35, oc_lstore 2 36), (36, oc_aload 0 37), (37, oc_getf B 4 0 40), (40, oc_iload 4 42), (42, oc_lload 5 44), (44, oc_lload 2 45), (45, oc_cl (1000000000) 48), (48, oc_lmul 49), (49, oc_lsub 50), (50, oc_l2i 51), (51, oc_iastore B 52), (52, oc_iinc 4 (1) 55), (55, oc_goto 5), (58, oc_lload 2 59), (59, oc_cl 0 60), (60, oc_lcmp 61), (61, oc_if_le 87 64), (64, oc_aload 0 65), (65, oc_aload 0 66), (66, oc_getf B 4 1 69), (69, oc_ci (1) 70), (70, oc_iadd 71), (71, oc_callv l B 4 m_Na_claim 1 74), (74, oc_aload 0 75), (75, oc_getf B 4 0 78), (78, oc_aload 0 79), (79, oc_getf B 4 1 82), (82, oc_ci (1) 83), (83, oc_isub 84), (84, oc_lload 2 85), (85, oc_l2i 86), (86, oc_iastore B 87), (87, oc_vret)]
set_option maxRecDepth 20000 in
theorem ok_Na_timesSmall {l : Launch} {B : zd_B} (hG : zd_G B) (hl : l.stackTraces = false) : ∀ q ∈ cd_Na_timesSmall l B, zd_ok l B m_Na_timesSmall q.1 q.2 := by
  unfold cd_Na_timesSmall
  refine zd_ac (ok_lconst (l := l) (B := B) (y := m_Na_timesSmall) (pc := 0) (n := 0) (zd_dr dc_Na_timesSmall 0 rfl) rfl) ?_
  refine zd_ac (ok_lstore_n (l := l) (B := B) (y := m_Na_timesSmall) (pc := 1) (k := 2) rfl (zd_dr dc_Na_timesSmall 1 rfl) (by decide)) ?_
  refine zd_ac (ok_iconst (l := l) (B := B) (y := m_Na_timesSmall) (pc := 2) (n := (0)) (zd_dr dc_Na_timesSmall 2 rfl) rfl) ?_
  refine zd_ac (ok_istore (l := l) (B := B) (y := m_Na_timesSmall) (pc := 3) (zd_dr dc_Na_timesSmall 3 rfl) (by decide)) ?_
  refine zd_ac (ok_iload (l := l) (B := B) (y := m_Na_timesSmall) (pc := 5) (zd_dr dc_Na_timesSmall 4 rfl)) ?_
  refine zd_ac (ok_aload_n (l := l) (B := B) (y := m_Na_timesSmall) (pc := 7) (k := 0) rfl (zd_dr dc_Na_timesSmall 5 rfl)) ?_
  refine zd_ac (ok_getf (l := l) (B := B) (y := m_Na_timesSmall) (pc := 8) hG (C := zR4) (T := zT4) (N := 2) (ci := 4) (k := 1) rfl zl4 (by decide) (List.mem_of_getElem? (i := 98) (by decide +kernel)) (zd_dr dc_Na_timesSmall 6 rfl)) ?_
  refine zd_ac (ok_icmp_ge (l := l) (B := B) (y := m_Na_timesSmall) (pc := 11) (zd_dr dc_Na_timesSmall 7 rfl) (by decide)) ?_
  refine zd_ac (ok_aload_n (l := l) (B := B) (y := m_Na_timesSmall) (pc := 14) (k := 0) rfl (zd_dr dc_Na_timesSmall 8 rfl)) ?_
  refine zd_ac (ok_getf (l := l) (B := B) (y := m_Na_timesSmall) (pc := 15) hG (C := zR4) (T := zT4) (N := 2) (ci := 4) (k := 0) rfl zl4 (by decide) (List.mem_of_getElem? (i := 96) (by decide +kernel)) (zd_dr dc_Na_timesSmall 9 rfl)) ?_
  refine zd_ac (ok_iload (l := l) (B := B) (y := m_Na_timesSmall) (pc := 18) (zd_dr dc_Na_timesSmall 10 rfl)) ?_
  refine zd_ac (ok_iaload (l := l) (B := B) (y := m_Na_timesSmall) (pc := 20) hG (zd_dr dc_Na_timesSmall 11 rfl)) ?_
  refine zd_ac (ok_i2l (l := l) (B := B) (y := m_Na_timesSmall) (pc := 21) (zd_dr dc_Na_timesSmall 12 rfl)) ?_
  refine zd_ac (ok_iload_n (l := l) (B := B) (y := m_Na_timesSmall) (pc := 22) (k := 1) rfl (zd_dr dc_Na_timesSmall 13 rfl)) ?_
  refine zd_ac (ok_i2l (l := l) (B := B) (y := m_Na_timesSmall) (pc := 23) (zd_dr dc_Na_timesSmall 14 rfl)) ?_
  refine zd_ac (ok_lmul (l := l) (B := B) (y := m_Na_timesSmall) (pc := 24) (zd_dr dc_Na_timesSmall 15 rfl)) ?_
  refine zd_ac (ok_lload_n (l := l) (B := B) (y := m_Na_timesSmall) (pc := 25) (k := 2) rfl (zd_dr dc_Na_timesSmall 16 rfl)) ?_
  refine zd_ac (ok_ladd (l := l) (B := B) (y := m_Na_timesSmall) (pc := 26) (zd_dr dc_Na_timesSmall 17 rfl)) ?_
  refine zd_ac (ok_lstore (l := l) (B := B) (y := m_Na_timesSmall) (pc := 27) (zd_dr dc_Na_timesSmall 18 rfl) (by decide)) ?_
  refine zd_ac (ok_lload (l := l) (B := B) (y := m_Na_timesSmall) (pc := 29) (zd_dr dc_Na_timesSmall 19 rfl)) ?_
  refine zd_ac (ok_ldc2 (l := l) (B := B) (y := m_Na_timesSmall) (pc := 31) hG (List.mem_of_getElem? (i := 504) (by decide +kernel)) (zd_dr dc_Na_timesSmall 20 rfl)) ?_
  refine zd_ac (ok_ldiv (l := l) (B := B) (y := m_Na_timesSmall) (pc := 34) (zd_dr dc_Na_timesSmall 21 rfl)) ?_
  refine zd_ac (ok_lstore_n (l := l) (B := B) (y := m_Na_timesSmall) (pc := 35) (k := 2) rfl (zd_dr dc_Na_timesSmall 22 rfl) (by decide)) ?_
  refine zd_ac (ok_aload_n (l := l) (B := B) (y := m_Na_timesSmall) (pc := 36) (k := 0) rfl (zd_dr dc_Na_timesSmall 23 rfl)) ?_
  refine zd_ac (ok_getf (l := l) (B := B) (y := m_Na_timesSmall) (pc := 37) hG (C := zR4) (T := zT4) (N := 2) (ci := 4) (k := 0) rfl zl4 (by decide) (List.mem_of_getElem? (i := 96) (by decide +kernel)) (zd_dr dc_Na_timesSmall 24 rfl)) ?_
  refine zd_ac (ok_iload (l := l) (B := B) (y := m_Na_timesSmall) (pc := 40) (zd_dr dc_Na_timesSmall 25 rfl)) ?_
  refine zd_ac (ok_lload (l := l) (B := B) (y := m_Na_timesSmall) (pc := 42) (zd_dr dc_Na_timesSmall 26 rfl)) ?_
  refine zd_ac (ok_lload_n (l := l) (B := B) (y := m_Na_timesSmall) (pc := 44) (k := 2) rfl (zd_dr dc_Na_timesSmall 27 rfl)) ?_
  refine zd_ac (ok_ldc2 (l := l) (B := B) (y := m_Na_timesSmall) (pc := 45) hG (List.mem_of_getElem? (i := 504) (by decide +kernel)) (zd_dr dc_Na_timesSmall 28 rfl)) ?_
  refine zd_ac (ok_lmul (l := l) (B := B) (y := m_Na_timesSmall) (pc := 48) (zd_dr dc_Na_timesSmall 29 rfl)) ?_
  refine zd_ac (ok_lsub (l := l) (B := B) (y := m_Na_timesSmall) (pc := 49) (zd_dr dc_Na_timesSmall 30 rfl)) ?_
  refine zd_ac (ok_l2i (l := l) (B := B) (y := m_Na_timesSmall) (pc := 50) (zd_dr dc_Na_timesSmall 31 rfl)) ?_
  refine zd_ac (ok_iastore (l := l) (B := B) (y := m_Na_timesSmall) (pc := 51) hG (zd_dr dc_Na_timesSmall 32 rfl)) ?_
  refine zd_ac (ok_iinc (l := l) (B := B) (y := m_Na_timesSmall) (pc := 52) (zd_dr dc_Na_timesSmall 33 rfl) (by decide) rfl) ?_
  refine zd_ac (ok_goto (l := l) (B := B) (y := m_Na_timesSmall) (pc := 55) (zd_dr dc_Na_timesSmall 34 rfl) (by decide)) ?_
  refine zd_ac (ok_lload_n (l := l) (B := B) (y := m_Na_timesSmall) (pc := 58) (k := 2) rfl (zd_dr dc_Na_timesSmall 35 rfl)) ?_
  refine zd_ac (ok_lconst (l := l) (B := B) (y := m_Na_timesSmall) (pc := 59) (n := 0) (zd_dr dc_Na_timesSmall 36 rfl) rfl) ?_
  refine zd_ac (ok_lcmp (l := l) (B := B) (y := m_Na_timesSmall) (pc := 60) (zd_dr dc_Na_timesSmall 37 rfl)) ?_
  refine zd_ac (ok_if_le (l := l) (B := B) (y := m_Na_timesSmall) (pc := 61) (zd_dr dc_Na_timesSmall 38 rfl) (by decide)) ?_
  refine zd_ac (ok_aload_n (l := l) (B := B) (y := m_Na_timesSmall) (pc := 64) (k := 0) rfl (zd_dr dc_Na_timesSmall 39 rfl)) ?_
  refine zd_ac (ok_aload_n (l := l) (B := B) (y := m_Na_timesSmall) (pc := 65) (k := 0) rfl (zd_dr dc_Na_timesSmall 40 rfl)) ?_
  refine zd_ac (ok_getf (l := l) (B := B) (y := m_Na_timesSmall) (pc := 66) hG (C := zR4) (T := zT4) (N := 2) (ci := 4) (k := 1) rfl zl4 (by decide) (List.mem_of_getElem? (i := 98) (by decide +kernel)) (zd_dr dc_Na_timesSmall 41 rfl)) ?_
  refine zd_ac (ok_iconst (l := l) (B := B) (y := m_Na_timesSmall) (pc := 69) (n := (1)) (zd_dr dc_Na_timesSmall 42 rfl) rfl) ?_
  refine zd_ac (ok_iadd (l := l) (B := B) (y := m_Na_timesSmall) (pc := 70) (zd_dr dc_Na_timesSmall 43 rfl)) ?_
  refine zd_ac (ok_callv (l := l) (B := B) (y := m_Na_timesSmall) (pc := 71) hG (ci := 4) rfl cf_Na_timesSmall_Na_claim rfl (List.mem_of_getElem? (i := 441) (by decide +kernel)) (List.mem_of_getElem? (i := 442) (by decide +kernel)) (List.mem_of_getElem? (i := 443) (by decide +kernel)) (zd_dr dc_Na_timesSmall 44 rfl)) ?_
  refine zd_ac (ok_aload_n (l := l) (B := B) (y := m_Na_timesSmall) (pc := 74) (k := 0) rfl (zd_dr dc_Na_timesSmall 45 rfl)) ?_
  refine zd_ac (ok_getf (l := l) (B := B) (y := m_Na_timesSmall) (pc := 75) hG (C := zR4) (T := zT4) (N := 2) (ci := 4) (k := 0) rfl zl4 (by decide) (List.mem_of_getElem? (i := 96) (by decide +kernel)) (zd_dr dc_Na_timesSmall 46 rfl)) ?_
  refine zd_ac (ok_aload_n (l := l) (B := B) (y := m_Na_timesSmall) (pc := 78) (k := 0) rfl (zd_dr dc_Na_timesSmall 47 rfl)) ?_
  refine zd_ac (ok_getf (l := l) (B := B) (y := m_Na_timesSmall) (pc := 79) hG (C := zR4) (T := zT4) (N := 2) (ci := 4) (k := 1) rfl zl4 (by decide) (List.mem_of_getElem? (i := 98) (by decide +kernel)) (zd_dr dc_Na_timesSmall 48 rfl)) ?_
  refine zd_ac (ok_iconst (l := l) (B := B) (y := m_Na_timesSmall) (pc := 82) (n := (1)) (zd_dr dc_Na_timesSmall 49 rfl) rfl) ?_
  refine zd_ac (ok_isub (l := l) (B := B) (y := m_Na_timesSmall) (pc := 83) (zd_dr dc_Na_timesSmall 50 rfl)) ?_
  refine zd_ac (ok_lload_n (l := l) (B := B) (y := m_Na_timesSmall) (pc := 84) (k := 2) rfl (zd_dr dc_Na_timesSmall 51 rfl)) ?_
  refine zd_ac (ok_l2i (l := l) (B := B) (y := m_Na_timesSmall) (pc := 85) (zd_dr dc_Na_timesSmall 52 rfl)) ?_
  refine zd_ac (ok_iastore (l := l) (B := B) (y := m_Na_timesSmall) (pc := 86) hG (zd_dr dc_Na_timesSmall 53 rfl)) ?_
  refine zd_ac (ok_vret (l := l) (B := B) (y := m_Na_timesSmall) (pc := 87) rfl (zd_dr dc_Na_timesSmall 54 rfl)) ?_
  exact zd_an
def dl_Na_overSmall : List (Nat × Instr × Nat) := [(0, .iload_n 1, 1), (1, .iconst (1), 1), (2, .if_icmp .gt (4), 3), (5, .return_, 1), (6, .lconst 0, 1), (7, .lstore_n 2, 1), (8, .aload_n 0, 1), (9, .getfield 15, 3), (12, .iconst (1), 1), (13, .isub, 1), (14, .istore 4, 2), (16, .iload 4, 2), (18, .ifCond .lt (44), 3), (21, .lload_n 2, 1), (22, .ldc2_w 45, 3), (25, .lmul, 1), (26, .aload_n 0, 1), (27, .getfield 9, 3), (30, .iload 4, 2), (32, .iaload, 1), (33, .i2l, 1), (34, .ladd, 1), (35, .lstore 5, 2), (37, .aload_n 0, 1), (38, .getfield 9, 3), (41, .iload 4, 2), (43, .lload 5, 2), (45, .iload_n 1, 1), (46, .i2l, 1), (47, .ldiv, 1), (48, .l2i, 1), (49, .iastore, 1), (50, .lload 5, 2), (52, .iload_n 1, 1), (53, .i2l, 1), (54, .lrem, 1), (55, .lstore_n 2, 1), (56, .iinc 4 (-1), 3), (59, .goto (-43), 3), (62, .aload_n 0, 1), (63, .invokevirtual 47, 3), (66, .return_, 1)]
theorem dc_Na_overSmall : ∀ q ∈ dl_Na_overSmall, decode (zd_yb m_Na_overSmall) q.1 = .ok q.2 := by decide +kernel
def cd_Na_overSmall (l : Launch) (B : zd_B) : List (Nat × zd_S) := [(0, oc_iload 1 1), (1, oc_ci (1) 2), (2, oc_icmp_gt 6 5), (5, oc_vret), (6, oc_cl 0 7), (7, oc_lstore 2 8), (8, oc_aload 0 9), (9, oc_getf B 4 1 12), (12, oc_ci (1) 13), (13, oc_isub 14), (14, oc_istore 4 16), (16, oc_iload 4 18), (18, oc_if_lt 62 21), (21, oc_lload 2 22), (22, oc_cl (1000000000) 25), (25, oc_lmul 26), (26, oc_aload 0 27), (27, oc_getf B 4 0 30), (30, oc_iload 4 32), (32, oc_iaload B 33), (33, oc_i2l 34), (34, oc_ladd 35), (35, oc_lstore 5 37), (37, oc_aload 0 38), (38, oc_getf B 4 0 41), (41, oc_iload 4 43), (43, oc_lload 5 45), (45, oc_iload 1 46), (46, oc_i2l 47), (47, oc_ldiv 48), (48, oc_l2i 49), (49, oc_iastore B 50), (50, oc_lload 5 52), (52, oc_iload 1 53), (53, oc_i2l 54), (54, oc_lrem 55), (55, oc_lstore 2 56), (56, oc_iinc 4 (-1) 59), (59, oc_goto 16), (62, oc_aload 0 63), (63, oc_callv l B 4 m_Na_trim 0 66), (66, oc_vret)]
set_option maxRecDepth 20000 in
theorem ok_Na_overSmall {l : Launch} {B : zd_B} (hG : zd_G B) (hl : l.stackTraces = false) : ∀ q ∈ cd_Na_overSmall l B, zd_ok l B m_Na_overSmall q.1 q.2 := by
  unfold cd_Na_overSmall
  refine zd_ac (ok_iload_n (l := l) (B := B) (y := m_Na_overSmall) (pc := 0) (k := 1) rfl (zd_dr dc_Na_overSmall 0 rfl)) ?_
  refine zd_ac (ok_iconst (l := l) (B := B) (y := m_Na_overSmall) (pc := 1) (n := (1)) (zd_dr dc_Na_overSmall 1 rfl) rfl) ?_
  refine zd_ac (ok_icmp_gt (l := l) (B := B) (y := m_Na_overSmall) (pc := 2) (zd_dr dc_Na_overSmall 2 rfl) (by decide)) ?_
  refine zd_ac (ok_vret (l := l) (B := B) (y := m_Na_overSmall) (pc := 5) rfl (zd_dr dc_Na_overSmall 3 rfl)) ?_
  refine zd_ac (ok_lconst (l := l) (B := B) (y := m_Na_overSmall) (pc := 6) (n := 0) (zd_dr dc_Na_overSmall 4 rfl) rfl) ?_
  refine zd_ac (ok_lstore_n (l := l) (B := B) (y := m_Na_overSmall) (pc := 7) (k := 2) rfl (zd_dr dc_Na_overSmall 5 rfl) (by decide)) ?_
  refine zd_ac (ok_aload_n (l := l) (B := B) (y := m_Na_overSmall) (pc := 8) (k := 0) rfl (zd_dr dc_Na_overSmall 6 rfl)) ?_
  refine zd_ac (ok_getf (l := l) (B := B) (y := m_Na_overSmall) (pc := 9) hG (C := zR4) (T := zT4) (N := 2) (ci := 4) (k := 1) rfl zl4 (by decide) (List.mem_of_getElem? (i := 98) (by decide +kernel)) (zd_dr dc_Na_overSmall 7 rfl)) ?_
  refine zd_ac (ok_iconst (l := l) (B := B) (y := m_Na_overSmall) (pc := 12) (n := (1)) (zd_dr dc_Na_overSmall 8 rfl) rfl) ?_
  refine zd_ac (ok_isub (l := l) (B := B) (y := m_Na_overSmall) (pc := 13) (zd_dr dc_Na_overSmall 9 rfl)) ?_
  refine zd_ac (ok_istore (l := l) (B := B) (y := m_Na_overSmall) (pc := 14) (zd_dr dc_Na_overSmall 10 rfl) (by decide)) ?_
  refine zd_ac (ok_iload (l := l) (B := B) (y := m_Na_overSmall) (pc := 16) (zd_dr dc_Na_overSmall 11 rfl)) ?_
  refine zd_ac (ok_if_lt (l := l) (B := B) (y := m_Na_overSmall) (pc := 18) (zd_dr dc_Na_overSmall 12 rfl) (by decide)) ?_
  refine zd_ac (ok_lload_n (l := l) (B := B) (y := m_Na_overSmall) (pc := 21) (k := 2) rfl (zd_dr dc_Na_overSmall 13 rfl)) ?_
  refine zd_ac (ok_ldc2 (l := l) (B := B) (y := m_Na_overSmall) (pc := 22) hG (List.mem_of_getElem? (i := 504) (by decide +kernel)) (zd_dr dc_Na_overSmall 14 rfl)) ?_
  refine zd_ac (ok_lmul (l := l) (B := B) (y := m_Na_overSmall) (pc := 25) (zd_dr dc_Na_overSmall 15 rfl)) ?_
  refine zd_ac (ok_aload_n (l := l) (B := B) (y := m_Na_overSmall) (pc := 26) (k := 0) rfl (zd_dr dc_Na_overSmall 16 rfl)) ?_
  refine zd_ac (ok_getf (l := l) (B := B) (y := m_Na_overSmall) (pc := 27) hG (C := zR4) (T := zT4) (N := 2) (ci := 4) (k := 0) rfl zl4 (by decide) (List.mem_of_getElem? (i := 96) (by decide +kernel)) (zd_dr dc_Na_overSmall 17 rfl)) ?_
  refine zd_ac (ok_iload (l := l) (B := B) (y := m_Na_overSmall) (pc := 30) (zd_dr dc_Na_overSmall 18 rfl)) ?_
  refine zd_ac (ok_iaload (l := l) (B := B) (y := m_Na_overSmall) (pc := 32) hG (zd_dr dc_Na_overSmall 19 rfl)) ?_
  refine zd_ac (ok_i2l (l := l) (B := B) (y := m_Na_overSmall) (pc := 33) (zd_dr dc_Na_overSmall 20 rfl)) ?_
  refine zd_ac (ok_ladd (l := l) (B := B) (y := m_Na_overSmall) (pc := 34) (zd_dr dc_Na_overSmall 21 rfl)) ?_
  refine zd_ac (ok_lstore (l := l) (B := B) (y := m_Na_overSmall) (pc := 35) (zd_dr dc_Na_overSmall 22 rfl) (by decide)) ?_
  refine zd_ac (ok_aload_n (l := l) (B := B) (y := m_Na_overSmall) (pc := 37) (k := 0) rfl (zd_dr dc_Na_overSmall 23 rfl)) ?_
  refine zd_ac (ok_getf (l := l) (B := B) (y := m_Na_overSmall) (pc := 38) hG (C := zR4) (T := zT4) (N := 2) (ci := 4) (k := 0) rfl zl4 (by decide) (List.mem_of_getElem? (i := 96) (by decide +kernel)) (zd_dr dc_Na_overSmall 24 rfl)) ?_
  refine zd_ac (ok_iload (l := l) (B := B) (y := m_Na_overSmall) (pc := 41) (zd_dr dc_Na_overSmall 25 rfl)) ?_
  refine zd_ac (ok_lload (l := l) (B := B) (y := m_Na_overSmall) (pc := 43) (zd_dr dc_Na_overSmall 26 rfl)) ?_
  refine zd_ac (ok_iload_n (l := l) (B := B) (y := m_Na_overSmall) (pc := 45) (k := 1) rfl (zd_dr dc_Na_overSmall 27 rfl)) ?_
  refine zd_ac (ok_i2l (l := l) (B := B) (y := m_Na_overSmall) (pc := 46) (zd_dr dc_Na_overSmall 28 rfl)) ?_
  refine zd_ac (ok_ldiv (l := l) (B := B) (y := m_Na_overSmall) (pc := 47) (zd_dr dc_Na_overSmall 29 rfl)) ?_
  refine zd_ac (ok_l2i (l := l) (B := B) (y := m_Na_overSmall) (pc := 48) (zd_dr dc_Na_overSmall 30 rfl)) ?_
  refine zd_ac (ok_iastore (l := l) (B := B) (y := m_Na_overSmall) (pc := 49) hG (zd_dr dc_Na_overSmall 31 rfl)) ?_
  refine zd_ac (ok_lload (l := l) (B := B) (y := m_Na_overSmall) (pc := 50) (zd_dr dc_Na_overSmall 32 rfl)) ?_
  refine zd_ac (ok_iload_n (l := l) (B := B) (y := m_Na_overSmall) (pc := 52) (k := 1) rfl (zd_dr dc_Na_overSmall 33 rfl)) ?_
  refine zd_ac (ok_i2l (l := l) (B := B) (y := m_Na_overSmall) (pc := 53) (zd_dr dc_Na_overSmall 34 rfl)) ?_
  refine zd_ac (ok_lrem (l := l) (B := B) (y := m_Na_overSmall) (pc := 54) (zd_dr dc_Na_overSmall 35 rfl)) ?_
  refine zd_ac (ok_lstore_n (l := l) (B := B) (y := m_Na_overSmall) (pc := 55) (k := 2) rfl (zd_dr dc_Na_overSmall 36 rfl) (by decide)) ?_
  refine zd_ac (ok_iinc (l := l) (B := B) (y := m_Na_overSmall) (pc := 56) (zd_dr dc_Na_overSmall 37 rfl) (by decide) rfl) ?_
  refine zd_ac (ok_goto (l := l) (B := B) (y := m_Na_overSmall) (pc := 59) (zd_dr dc_Na_overSmall 38 rfl) (by decide)) ?_
  refine zd_ac (ok_aload_n (l := l) (B := B) (y := m_Na_overSmall) (pc := 62) (k := 0) rfl (zd_dr dc_Na_overSmall 39 rfl)) ?_
  refine zd_ac (ok_callv (l := l) (B := B) (y := m_Na_overSmall) (pc := 63) hG (ci := 4) rfl cf_Na_overSmall_Na_trim rfl (List.mem_of_getElem? (i := 505) (by decide +kernel)) (List.mem_of_getElem? (i := 455) (by decide +kernel)) (List.mem_of_getElem? (i := 456) (by decide +kernel)) (zd_dr dc_Na_overSmall 40 rfl)) ?_
  refine zd_ac (ok_vret (l := l) (B := B) (y := m_Na_overSmall) (pc := 66) rfl (zd_dr dc_Na_overSmall 41 rfl)) ?_
  exact zd_an

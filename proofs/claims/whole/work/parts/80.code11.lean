/-! written by gencode.py: code of Rough and DecimalDesk -/
def cx_Ru_describe (l : Launch) (B : zd_B) : List (Nat × zx_S) := [(0, xm_p (oc_aload 0 1)), (1, xm_p (oc_iload 1 2)), (2, xm_putn 5), (5, xm_p (oc_aload 0 6)), (6, xm_p (oc_iload 2 7)), (7, xm_puts 10), (10, xm_p (oc_aload 0 11)), (11, xm_p (oc_ci (0) 12)), (12, xm_putl 15), (15, xm_vret)]
set_option maxRecDepth 20000 in
theorem okx_Ru_describe {l : Launch} {B : zd_B} (hG : zd_G B) (hl : l.stackTraces = false) : ∀ q ∈ cx_Ru_describe l B, zx_ok l B m_Ru_describe q.1 q.2 := by
  unfold cx_Ru_describe
  refine zx_ac (xm_pk nt_aload (ok_aload_n (l := l) (B := B) (y := m_Ru_describe) (pc := 0) (k := 0) rfl (zd_dr dc_Ru_describe 0 rfl))) ?_
  refine zx_ac (xm_pk nt_iload (ok_iload_n (l := l) (B := B) (y := m_Ru_describe) (pc := 1) (k := 1) rfl (zd_dr dc_Ru_describe 1 rfl))) ?_
  refine zx_ac (ok_xputn (ok_putf (l := l) (B := B) (y := m_Ru_describe) (pc := 2) hG (C := zR6) (T := zT6) (N := 4) (ci := 6) (k := 1) rfl zl6 zt6 (by decide) (List.mem_of_getElem? (i := 215) (by decide +kernel)) rfl (zd_dr dc_Ru_describe 2 rfl))) ?_
  refine zx_ac (xm_pk nt_aload (ok_aload_n (l := l) (B := B) (y := m_Ru_describe) (pc := 5) (k := 0) rfl (zd_dr dc_Ru_describe 3 rfl))) ?_
  refine zx_ac (xm_pk nt_iload (ok_iload_n (l := l) (B := B) (y := m_Ru_describe) (pc := 6) (k := 2) rfl (zd_dr dc_Ru_describe 4 rfl))) ?_
  refine zx_ac (ok_xputs (ok_putf (l := l) (B := B) (y := m_Ru_describe) (pc := 7) hG (C := zR6) (T := zT6) (N := 4) (ci := 6) (k := 2) rfl zl6 zt6 (by decide) (List.mem_of_getElem? (i := 218) (by decide +kernel)) rfl (zd_dr dc_Ru_describe 5 rfl))) ?_
  refine zx_ac (xm_pk nt_aload (ok_aload_n (l := l) (B := B) (y := m_Ru_describe) (pc := 10) (k := 0) rfl (zd_dr dc_Ru_describe 6 rfl))) ?_
  refine zx_ac (xm_pk nt_ci (ok_iconst (l := l) (B := B) (y := m_Ru_describe) (pc := 11) (n := (0)) (zd_dr dc_Ru_describe 7 rfl) rfl)) ?_
  refine zx_ac (ok_xputl (ok_putf (l := l) (B := B) (y := m_Ru_describe) (pc := 12) hG (C := zR6) (T := zT6) (N := 4) (ci := 6) (k := 3) rfl zl6 zt6 (by decide) (List.mem_of_getElem? (i := 221) (by decide +kernel)) rfl (zd_dr dc_Ru_describe 8 rfl))) ?_
  refine zx_ac (ok_xvret (ok_vret (l := l) (B := B) (y := m_Ru_describe) (pc := 15) rfl (zd_dr dc_Ru_describe 9 rfl))) ?_
  exact zx_an
def cx_Ru_take (l : Launch) (B : zd_B) : List (Nat × zx_S) := [(0, xm_p (oc_aload 0 1)), (1, xm_getr 0 4), (4, xm_p (oc_aload 1 5)), (5, xm_getc 0 8), (8, xm_callv l B 4 m_Na_copy 1 11), (11, xm_p (oc_aload 0 12)), (12, xm_p (oc_aload 1 13)), (13, xm_getc 1 16), (16, xm_p (oc_aload 1 17)), (17, xm_getc 2 20), (20, xm_callv l B 6 m_Ru_describe 2 23), (23, xm_vret)]
set_option maxRecDepth 20000 in
theorem okx_Ru_take {l : Launch} {B : zd_B} (hG : zd_G B) (hl : l.stackTraces = false) : ∀ q ∈ cx_Ru_take l B, zx_ok l B m_Ru_take q.1 q.2 := by
  unfold cx_Ru_take
  refine zx_ac (xm_pk nt_aload (ok_aload_n (l := l) (B := B) (y := m_Ru_take) (pc := 0) (k := 0) rfl (zd_dr dc_Ru_take 0 rfl))) ?_
  refine zx_ac (ok_xgetr (ok_getf (l := l) (B := B) (y := m_Ru_take) (pc := 1) hG (C := zR6) (T := zT6) (N := 4) (ci := 6) (k := 0) rfl zl6 (by decide) (List.mem_of_getElem? (i := 212) (by decide +kernel)) (zd_dr dc_Ru_take 1 rfl))) ?_
  refine zx_ac (xm_pk nt_aload (ok_aload_n (l := l) (B := B) (y := m_Ru_take) (pc := 4) (k := 1) rfl (zd_dr dc_Ru_take 2 rfl))) ?_
  refine zx_ac (ok_xgetc (ok_getf (l := l) (B := B) (y := m_Ru_take) (pc := 5) hG (C := zR1) (T := zT1) (N := 3) (ci := 1) (k := 0) rfl zl1 (by decide) (List.mem_of_getElem? (i := 109) (by decide +kernel)) (zd_dr dc_Ru_take 3 rfl))) ?_
  refine zx_ac (ok_xcallv (ok_callv (l := l) (B := B) (y := m_Ru_take) (pc := 8) hG (ci := 4) rfl cf_Ru_take_Na_copy rfl (List.mem_of_getElem? (i := 530) (by decide +kernel)) (List.mem_of_getElem? (i := 483) (by decide +kernel)) (List.mem_of_getElem? (i := 484) (by decide +kernel)) (zd_dr dc_Ru_take 4 rfl))) ?_
  refine zx_ac (xm_pk nt_aload (ok_aload_n (l := l) (B := B) (y := m_Ru_take) (pc := 11) (k := 0) rfl (zd_dr dc_Ru_take 5 rfl))) ?_
  refine zx_ac (xm_pk nt_aload (ok_aload_n (l := l) (B := B) (y := m_Ru_take) (pc := 12) (k := 1) rfl (zd_dr dc_Ru_take 6 rfl))) ?_
  refine zx_ac (ok_xgetc (ok_getf (l := l) (B := B) (y := m_Ru_take) (pc := 13) hG (C := zR1) (T := zT1) (N := 3) (ci := 1) (k := 1) rfl zl1 (by decide) (List.mem_of_getElem? (i := 112) (by decide +kernel)) (zd_dr dc_Ru_take 7 rfl))) ?_
  refine zx_ac (xm_pk nt_aload (ok_aload_n (l := l) (B := B) (y := m_Ru_take) (pc := 16) (k := 1) rfl (zd_dr dc_Ru_take 8 rfl))) ?_
  refine zx_ac (ok_xgetc (ok_getf (l := l) (B := B) (y := m_Ru_take) (pc := 17) hG (C := zR1) (T := zT1) (N := 3) (ci := 1) (k := 2) rfl zl1 (by decide) (List.mem_of_getElem? (i := 116) (by decide +kernel)) (zd_dr dc_Ru_take 9 rfl))) ?_
  refine zx_ac (ok_xcallv (ok_callv (l := l) (B := B) (y := m_Ru_take) (pc := 20) hG (ci := 6) rfl cf_Ru_take_Ru_describe rfl (List.mem_of_getElem? (i := 531) (by decide +kernel)) (List.mem_of_getElem? (i := 463) (by decide +kernel)) (List.mem_of_getElem? (i := 464) (by decide +kernel)) (zd_dr dc_Ru_take 10 rfl))) ?_
  refine zx_ac (ok_xvret (ok_vret (l := l) (B := B) (y := m_Ru_take) (pc := 23) rfl (zd_dr dc_Ru_take 11 rfl))) ?_
  exact zx_an
def cx_Ru_cutTo (l : Launch) (B : zd_B) : List (Nat × zx_S) := [(0, xm_p (oc_aload 0 1)), (1, xm_getr 0 4), (4, xm_p (oc_iload 1 5)), (5, xm_p (oc_aload 0 6)), (6, xm_getr 2 9), (9, xm_p (oc_isub 10)), (10, xm_callv l B 4 m_Na_move 1 13), (13, xm_p (oc_istore 2 14)), (14, xm_p (oc_aload 0 15)), (15, xm_p (oc_aload 0 16)), (16, xm_getr 3 19), (19, xm_p (oc_if_ne 26 22)), (22, xm_p (oc_iload 2 23)), (23, xm_p (oc_if_eq 30 26)), (26, xm_p (oc_ci (1) 27)), (27, xm_p (oc_goto 31)), (30, xm_p (oc_ci (0) 31)), (31, xm_putl 34), (34, xm_p (oc_aload 0 35)), (35, xm_p (oc_iload 1 36)), (36, xm_puts 39), (39, xm_vret)]
set_option maxRecDepth 20000 in
theorem okx_Ru_cutTo {l : Launch} {B : zd_B} (hG : zd_G B) (hl : l.stackTraces = false) : ∀ q ∈ cx_Ru_cutTo l B, zx_ok l B m_Ru_cutTo q.1 q.2 := by
  unfold cx_Ru_cutTo
  refine zx_ac (xm_pk nt_aload (ok_aload_n (l := l) (B := B) (y := m_Ru_cutTo) (pc := 0) (k := 0) rfl (zd_dr dc_Ru_cutTo 0 rfl))) ?_
  refine zx_ac (ok_xgetr (ok_getf (l := l) (B := B) (y := m_Ru_cutTo) (pc := 1) hG (C := zR6) (T := zT6) (N := 4) (ci := 6) (k := 0) rfl zl6 (by decide) (List.mem_of_getElem? (i := 212) (by decide +kernel)) (zd_dr dc_Ru_cutTo 1 rfl))) ?_
  refine zx_ac (xm_pk nt_iload (ok_iload_n (l := l) (B := B) (y := m_Ru_cutTo) (pc := 4) (k := 1) rfl (zd_dr dc_Ru_cutTo 2 rfl))) ?_
  refine zx_ac (xm_pk nt_aload (ok_aload_n (l := l) (B := B) (y := m_Ru_cutTo) (pc := 5) (k := 0) rfl (zd_dr dc_Ru_cutTo 3 rfl))) ?_
  refine zx_ac (ok_xgetr (ok_getf (l := l) (B := B) (y := m_Ru_cutTo) (pc := 6) hG (C := zR6) (T := zT6) (N := 4) (ci := 6) (k := 2) rfl zl6 (by decide) (List.mem_of_getElem? (i := 218) (by decide +kernel)) (zd_dr dc_Ru_cutTo 4 rfl))) ?_
  refine zx_ac (xm_pk nt_isub (ok_isub (l := l) (B := B) (y := m_Ru_cutTo) (pc := 9) (zd_dr dc_Ru_cutTo 5 rfl))) ?_
  refine zx_ac (ok_xcallv (ok_callv (l := l) (B := B) (y := m_Ru_cutTo) (pc := 10) hG (ci := 4) rfl cf_Ru_cutTo_Na_move rfl (List.mem_of_getElem? (i := 536) (by decide +kernel)) (List.mem_of_getElem? (i := 537) (by decide +kernel)) (List.mem_of_getElem? (i := 538) (by decide +kernel)) (zd_dr dc_Ru_cutTo 6 rfl))) ?_
  refine zx_ac (xm_pk nt_istore (ok_istore_n (l := l) (B := B) (y := m_Ru_cutTo) (pc := 13) (k := 2) rfl (zd_dr dc_Ru_cutTo 7 rfl) (by decide))) ?_
  refine zx_ac (xm_pk nt_aload (ok_aload_n (l := l) (B := B) (y := m_Ru_cutTo) (pc := 14) (k := 0) rfl (zd_dr dc_Ru_cutTo 8 rfl))) ?_
  refine zx_ac (xm_pk nt_aload (ok_aload_n (l := l) (B := B) (y := m_Ru_cutTo) (pc := 15) (k := 0) rfl (zd_dr dc_Ru_cutTo 9 rfl))) ?_
  refine zx_ac (ok_xgetr (ok_getf (l := l) (B := B) (y := m_Ru_cutTo) (pc := 16) hG (C := zR6) (T := zT6) (N := 4) (ci := 6) (k := 3) rfl zl6 (by decide) (List.mem_of_getElem? (i := 221) (by decide +kernel)) (zd_dr dc_Ru_cutTo 10 rfl))) ?_
  refine zx_ac (xm_pk nt_if_ne (ok_if_ne (l := l) (B := B) (y := m_Ru_cutTo) (pc := 19) (zd_dr dc_Ru_cutTo 11 rfl) (by decide))) ?_
  refine zx_ac (xm_pk nt_iload (ok_iload_n (l := l) (B := B) (y := m_Ru_cutTo) (pc := 22) (k := 2) rfl (zd_dr dc_Ru_cutTo 12 rfl))) ?_
  refine zx_ac (xm_pk nt_if_eq (ok_if_eq (l := l) (B := B) (y := m_Ru_cutTo) (pc := 23) (zd_dr dc_Ru_cutTo 13 rfl) (by decide))) ?_
  refine zx_ac (xm_pk nt_ci (ok_iconst (l := l) (B := B) (y := m_Ru_cutTo) (pc := 26) (n := (1)) (zd_dr dc_Ru_cutTo 14 rfl) rfl)) ?_
  refine zx_ac (xm_pk nt_goto (ok_goto (l := l) (B := B) (y := m_Ru_cutTo) (pc := 27) (zd_dr dc_Ru_cutTo 15 rfl) (by decide))) ?_
  refine zx_ac (xm_pk nt_ci (ok_iconst (l := l) (B := B) (y := m_Ru_cutTo) (pc := 30) (n := (0)) (zd_dr dc_Ru_cutTo 16 rfl) rfl)) ?_
  refine zx_ac (ok_xputl (ok_putf (l := l) (B := B) (y := m_Ru_cutTo) (pc := 31) hG (C := zR6) (T := zT6) (N := 4) (ci := 6) (k := 3) rfl zl6 zt6 (by decide) (List.mem_of_getElem? (i := 221) (by decide +kernel)) rfl (zd_dr dc_Ru_cutTo 17 rfl))) ?_
  refine zx_ac (xm_pk nt_aload (ok_aload_n (l := l) (B := B) (y := m_Ru_cutTo) (pc := 34) (k := 0) rfl (zd_dr dc_Ru_cutTo 18 rfl))) ?_
  refine zx_ac (xm_pk nt_iload (ok_iload_n (l := l) (B := B) (y := m_Ru_cutTo) (pc := 35) (k := 1) rfl (zd_dr dc_Ru_cutTo 19 rfl))) ?_
  refine zx_ac (ok_xputs (ok_putf (l := l) (B := B) (y := m_Ru_cutTo) (pc := 36) hG (C := zR6) (T := zT6) (N := 4) (ci := 6) (k := 2) rfl zl6 zt6 (by decide) (List.mem_of_getElem? (i := 218) (by decide +kernel)) rfl (zd_dr dc_Ru_cutTo 20 rfl))) ?_
  refine zx_ac (ok_xvret (ok_vret (l := l) (B := B) (y := m_Ru_cutTo) (pc := 39) rfl (zd_dr dc_Ru_cutTo 21 rfl))) ?_
  exact zx_an
def cx_Ru_dropGuard (l : Launch) (B : zd_B) : List (Nat × zx_S) := [(0, xm_p (oc_aload 0 1)), (1, xm_getr 0 4), (4, xm_p (oc_ci (0) 5)), (5, xm_callv l B 4 m_Na_digitAt 1 8), (8, xm_p (oc_istore 2 9)), (9, xm_p (oc_aload 0 10)), (10, xm_getr 3 13), (13, xm_p (oc_istore 3 14)), (14, xm_p (oc_aload 0 15)), (15, xm_p (oc_aload 0 16)), (16, xm_getr 2 19), (19, xm_p (oc_ci (1) 20)), (20, xm_p (oc_isub 21)), (21, xm_callv l B 6 m_Ru_cutTo 1 24), (24, xm_p (oc_aload 0 25)), (25, xm_getr 3 28), (28, xm_p (oc_if_ne 32 31)), (31, xm_vret), (32, xm_p (oc_iload 1 33)), (33, xm_p (oc_ci (7) 35)), (35, xm_p (oc_icmp_ne 48 38)), (38, xm_throw 11), (48, xm_p (oc_aload 0 49)), (49, xm_p (oc_iload 1 50)), (50, xm_p (oc_iload 2 51)), (51, xm_p (oc_iload 3 52)), (52, xm_callv l B 6 m_Ru_goesOutwards 3 55), (55, xm_p (oc_if_eq 65 58)), (58, xm_p (oc_aload 0 59)), (59, xm_getr 0 62), (62, xm_callv l B 4 m_Na_increment 0 65), (65, xm_vret)]
set_option maxRecDepth 20000 in
theorem okx_Ru_dropGuard {l : Launch} {B : zd_B} (hG : zd_G B) (hl : l.stackTraces = false) : ∀ q ∈ cx_Ru_dropGuard l B, zx_ok l B m_Ru_dropGuard q.1 q.2 := by
  unfold cx_Ru_dropGuard
  refine zx_ac (xm_pk nt_aload (ok_aload_n (l := l) (B := B) (y := m_Ru_dropGuard) (pc := 0) (k := 0) rfl (zd_dr dc_Ru_dropGuard 0 rfl))) ?_
  refine zx_ac (ok_xgetr (ok_getf (l := l) (B := B) (y := m_Ru_dropGuard) (pc := 1) hG (C := zR6) (T := zT6) (N := 4) (ci := 6) (k := 0) rfl zl6 (by decide) (List.mem_of_getElem? (i := 212) (by decide +kernel)) (zd_dr dc_Ru_dropGuard 1 rfl))) ?_
  refine zx_ac (xm_pk nt_ci (ok_iconst (l := l) (B := B) (y := m_Ru_dropGuard) (pc := 4) (n := (0)) (zd_dr dc_Ru_dropGuard 2 rfl) rfl)) ?_
  refine zx_ac (ok_xcallv (ok_callv (l := l) (B := B) (y := m_Ru_dropGuard) (pc := 5) hG (ci := 4) rfl cf_Ru_dropGuard_Na_digitAt rfl (List.mem_of_getElem? (i := 647) (by decide +kernel)) (List.mem_of_getElem? (i := 648) (by decide +kernel)) (List.mem_of_getElem? (i := 649) (by decide +kernel)) (zd_dr dc_Ru_dropGuard 3 rfl))) ?_
  refine zx_ac (xm_pk nt_istore (ok_istore_n (l := l) (B := B) (y := m_Ru_dropGuard) (pc := 8) (k := 2) rfl (zd_dr dc_Ru_dropGuard 4 rfl) (by decide))) ?_
  refine zx_ac (xm_pk nt_aload (ok_aload_n (l := l) (B := B) (y := m_Ru_dropGuard) (pc := 9) (k := 0) rfl (zd_dr dc_Ru_dropGuard 5 rfl))) ?_
  refine zx_ac (ok_xgetr (ok_getf (l := l) (B := B) (y := m_Ru_dropGuard) (pc := 10) hG (C := zR6) (T := zT6) (N := 4) (ci := 6) (k := 3) rfl zl6 (by decide) (List.mem_of_getElem? (i := 221) (by decide +kernel)) (zd_dr dc_Ru_dropGuard 6 rfl))) ?_
  refine zx_ac (xm_pk nt_istore (ok_istore_n (l := l) (B := B) (y := m_Ru_dropGuard) (pc := 13) (k := 3) rfl (zd_dr dc_Ru_dropGuard 7 rfl) (by decide))) ?_
  refine zx_ac (xm_pk nt_aload (ok_aload_n (l := l) (B := B) (y := m_Ru_dropGuard) (pc := 14) (k := 0) rfl (zd_dr dc_Ru_dropGuard 8 rfl))) ?_
  refine zx_ac (xm_pk nt_aload (ok_aload_n (l := l) (B := B) (y := m_Ru_dropGuard) (pc := 15) (k := 0) rfl (zd_dr dc_Ru_dropGuard 9 rfl))) ?_
  refine zx_ac (ok_xgetr (ok_getf (l := l) (B := B) (y := m_Ru_dropGuard) (pc := 16) hG (C := zR6) (T := zT6) (N := 4) (ci := 6) (k := 2) rfl zl6 (by decide) (List.mem_of_getElem? (i := 218) (by decide +kernel)) (zd_dr dc_Ru_dropGuard 10 rfl))) ?_
  refine zx_ac (xm_pk nt_ci (ok_iconst (l := l) (B := B) (y := m_Ru_dropGuard) (pc := 19) (n := (1)) (zd_dr dc_Ru_dropGuard 11 rfl) rfl)) ?_
  refine zx_ac (xm_pk nt_isub (ok_isub (l := l) (B := B) (y := m_Ru_dropGuard) (pc := 20) (zd_dr dc_Ru_dropGuard 12 rfl))) ?_
  refine zx_ac (ok_xcallv (ok_callv (l := l) (B := B) (y := m_Ru_dropGuard) (pc := 21) hG (ci := 6) rfl cf_Ru_dropGuard_Ru_cutTo rfl (List.mem_of_getElem? (i := 651) (by decide +kernel)) (List.mem_of_getElem? (i := 533) (by decide +kernel)) (List.mem_of_getElem? (i := 534) (by decide +kernel)) (zd_dr dc_Ru_dropGuard 13 rfl))) ?_
  refine zx_ac (xm_pk nt_aload (ok_aload_n (l := l) (B := B) (y := m_Ru_dropGuard) (pc := 24) (k := 0) rfl (zd_dr dc_Ru_dropGuard 14 rfl))) ?_
  refine zx_ac (ok_xgetr (ok_getf (l := l) (B := B) (y := m_Ru_dropGuard) (pc := 25) hG (C := zR6) (T := zT6) (N := 4) (ci := 6) (k := 3) rfl zl6 (by decide) (List.mem_of_getElem? (i := 221) (by decide +kernel)) (zd_dr dc_Ru_dropGuard 15 rfl))) ?_
  refine zx_ac (xm_pk nt_if_ne (ok_if_ne (l := l) (B := B) (y := m_Ru_dropGuard) (pc := 28) (zd_dr dc_Ru_dropGuard 16 rfl) (by decide))) ?_
  refine zx_ac (ok_xvret (ok_vret (l := l) (B := B) (y := m_Ru_dropGuard) (pc := 31) rfl (zd_dr dc_Ru_dropGuard 17 rfl))) ?_
  refine zx_ac (xm_pk nt_iload (ok_iload_n (l := l) (B := B) (y := m_Ru_dropGuard) (pc := 32) (k := 1) rfl (zd_dr dc_Ru_dropGuard 18 rfl))) ?_
  refine zx_ac (xm_pk nt_ci (ok_bipush (l := l) (B := B) (y := m_Ru_dropGuard) (pc := 33) (n := (7)) (zd_dr dc_Ru_dropGuard 19 rfl) rfl)) ?_
  refine zx_ac (xm_pk nt_icmp_ne (ok_icmp_ne (l := l) (B := B) (y := m_Ru_dropGuard) (pc := 35) (zd_dr dc_Ru_dropGuard 20 rfl) (by decide))) ?_
  refine zx_ac (ok_xthrow (ok_throw (l := l) (B := B) (y := m_Ru_dropGuard) (pc := 38) hG hl zE11 zx_Ru_55_57_59 rfl (by decide) (by decide) (zd_dr dc_Ru_dropGuard 21 rfl) (zd_dr dc_Ru_dropGuard 22 rfl) (zd_dr dc_Ru_dropGuard 23 rfl) (zd_dr dc_Ru_dropGuard 24 rfl) (zd_dr dc_Ru_dropGuard 25 rfl))) ?_
  refine zx_ac (xm_pk nt_aload (ok_aload_n (l := l) (B := B) (y := m_Ru_dropGuard) (pc := 48) (k := 0) rfl (zd_dr dc_Ru_dropGuard 26 rfl))) ?_
  refine zx_ac (xm_pk nt_iload (ok_iload_n (l := l) (B := B) (y := m_Ru_dropGuard) (pc := 49) (k := 1) rfl (zd_dr dc_Ru_dropGuard 27 rfl))) ?_
  refine zx_ac (xm_pk nt_iload (ok_iload_n (l := l) (B := B) (y := m_Ru_dropGuard) (pc := 50) (k := 2) rfl (zd_dr dc_Ru_dropGuard 28 rfl))) ?_
  refine zx_ac (xm_pk nt_iload (ok_iload_n (l := l) (B := B) (y := m_Ru_dropGuard) (pc := 51) (k := 3) rfl (zd_dr dc_Ru_dropGuard 29 rfl))) ?_
  refine zx_ac (ok_xcallv (ok_callv (l := l) (B := B) (y := m_Ru_dropGuard) (pc := 52) hG (ci := 6) rfl cf_Ru_dropGuard_Ru_goesOutwards rfl (List.mem_of_getElem? (i := 655) (by decide +kernel)) (List.mem_of_getElem? (i := 657) (by decide +kernel)) (List.mem_of_getElem? (i := 14) (by decide +kernel)) (zd_dr dc_Ru_dropGuard 30 rfl))) ?_
  refine zx_ac (xm_pk nt_if_eq (ok_if_eq (l := l) (B := B) (y := m_Ru_dropGuard) (pc := 55) (zd_dr dc_Ru_dropGuard 31 rfl) (by decide))) ?_
  refine zx_ac (xm_pk nt_aload (ok_aload_n (l := l) (B := B) (y := m_Ru_dropGuard) (pc := 58) (k := 0) rfl (zd_dr dc_Ru_dropGuard 32 rfl))) ?_
  refine zx_ac (ok_xgetr (ok_getf (l := l) (B := B) (y := m_Ru_dropGuard) (pc := 59) hG (C := zR6) (T := zT6) (N := 4) (ci := 6) (k := 0) rfl zl6 (by decide) (List.mem_of_getElem? (i := 212) (by decide +kernel)) (zd_dr dc_Ru_dropGuard 33 rfl))) ?_
  refine zx_ac (ok_xcallv (ok_callv (l := l) (B := B) (y := m_Ru_dropGuard) (pc := 62) hG (ci := 4) rfl cf_Ru_dropGuard_Na_increment rfl (List.mem_of_getElem? (i := 659) (by decide +kernel)) (List.mem_of_getElem? (i := 660) (by decide +kernel)) (List.mem_of_getElem? (i := 661) (by decide +kernel)) (zd_dr dc_Ru_dropGuard 34 rfl))) ?_
  refine zx_ac (ok_xvret (ok_vret (l := l) (B := B) (y := m_Ru_dropGuard) (pc := 65) rfl (zd_dr dc_Ru_dropGuard 35 rfl))) ?_
  exact zx_an
def cx_Ru_goesOutwards (l : Launch) (B : zd_B) : List (Nat × zx_S) := [(0, xm_p (oc_iload 1 1)), (1, xm_p (oc_sw [(0, 44), (1, 128), (2, 46), (3, 59), (4, 64), (5, 75), (6, 95)] 128)), (44, xm_p (oc_ci (1) 45)), (45, xm_zret), (46, xm_p (oc_aload 0 47)), (47, xm_getr 1 50), (50, xm_p (oc_if_ne 57 53)), (53, xm_p (oc_ci (1) 54)), (54, xm_p (oc_goto 58)), (57, xm_p (oc_ci (0) 58)), (58, xm_zret), (59, xm_p (oc_aload 0 60)), (60, xm_getr 1 63), (63, xm_zret), (64, xm_p (oc_iload 2 65)), (65, xm_p (oc_ci (5) 66)), (66, xm_p (oc_icmp_lt 73 69)), (69, xm_p (oc_ci (1) 70)), (70, xm_p (oc_goto 74)), (73, xm_p (oc_ci (0) 74)), (74, xm_zret), (75, xm_p (oc_iload 2 76)), (76, xm_p (oc_ci (5) 77)), (77, xm_p (oc_icmp_gt 89 80)), (80, xm_p (oc_iload 2 81)), (81, xm_p (oc_ci (5) 82)), (82, xm_p (oc_icmp_ne 93 85)), (85, xm_p (oc_iload 3 86)), (86, xm_p (oc_if_eq 93 89)), (89, xm_p (oc_ci (1) 90)), (90, xm_p (oc_goto 94)), (93, xm_p (oc_ci (0) 94)), (94, xm_zret), (95, xm_p (oc_iload 2 96)), (96, xm_p (oc_ci (5) 97)), (97, xm_p (oc_icmp_gt 122 100)), (100, xm_p (oc_iload 2 101)), (101, xm_p (oc_ci (5) 102)), (102, xm_p (oc_icmp_ne 126 105)), (105, xm_p (oc_iload 3 106)), (106, xm_p (oc_if_ne 122 109)), (109, xm_p (oc_aload 0 110)), (110, xm_getr 0 113), (113, xm_p (oc_ci (0) 114)), (114, xm_callv l B 4 m_Na_digitAt 1 117), (117, xm_p (oc_ci (2) 118)), (118, xm_p (oc_irem 119)), (119, xm_p (oc_if_eq 126 122)), (122, xm_p (oc_ci (1) 123)), (123, xm_p (oc_goto 127)), (126, xm_p (oc_ci (0) 127)), (127, xm_zret), (128, xm_p (oc_ci (0) 129)), (129, xm_zret)]
set_option maxRecDepth 20000 in
theorem okx_Ru_goesOutwards {l : Launch} {B : zd_B} (hG : zd_G B) (hl : l.stackTraces = false) : ∀ q ∈ cx_Ru_goesOutwards l B, zx_ok l B m_Ru_goesOutwards q.1 q.2 := by
  unfold cx_Ru_goesOutwards
  refine zx_ac (xm_pk nt_iload (ok_iload_n (l := l) (B := B) (y := m_Ru_goesOutwards) (pc := 0) (k := 1) rfl (zd_dr dc_Ru_goesOutwards 0 rfl))) ?_
  refine zx_ac (xm_pk nt_sw (ok_sw (l := l) (B := B) (y := m_Ru_goesOutwards) (pc := 1) (zd_dr dc_Ru_goesOutwards 1 rfl) (by decide) (by unfold zd_swok; decide +kernel))) ?_
  refine zx_ac (xm_pk nt_ci (ok_iconst (l := l) (B := B) (y := m_Ru_goesOutwards) (pc := 44) (n := (1)) (zd_dr dc_Ru_goesOutwards 2 rfl) rfl)) ?_
  refine zx_ac (ok_xzret (ok_iret (l := l) (B := B) (y := m_Ru_goesOutwards) (pc := 45) rfl (zd_dr dc_Ru_goesOutwards 3 rfl))) ?_
  refine zx_ac (xm_pk nt_aload (ok_aload_n (l := l) (B := B) (y := m_Ru_goesOutwards) (pc := 46) (k := 0) rfl (zd_dr dc_Ru_goesOutwards 4 rfl))) ?_
  refine zx_ac (ok_xgetr (ok_getf (l := l) (B := B) (y := m_Ru_goesOutwards) (pc := 47) hG (C := zR6) (T := zT6) (N := 4) (ci := 6) (k := 1) rfl zl6 (by decide) (List.mem_of_getElem? (i := 215) (by decide +kernel)) (zd_dr dc_Ru_goesOutwards 5 rfl))) ?_
  refine zx_ac (xm_pk nt_if_ne (ok_if_ne (l := l) (B := B) (y := m_Ru_goesOutwards) (pc := 50) (zd_dr dc_Ru_goesOutwards 6 rfl) (by decide))) ?_
  refine zx_ac (xm_pk nt_ci (ok_iconst (l := l) (B := B) (y := m_Ru_goesOutwards) (pc := 53) (n := (1)) (zd_dr dc_Ru_goesOutwards 7 rfl) rfl)) ?_
  refine zx_ac (xm_pk nt_goto (ok_goto (l := l) (B := B) (y := m_Ru_goesOutwards) (pc := 54) (zd_dr dc_Ru_goesOutwards 8 rfl) (by decide))) ?_
  refine zx_ac (xm_pk nt_ci (ok_iconst (l := l) (B := B) (y := m_Ru_goesOutwards) (pc := 57) (n := (0)) (zd_dr dc_Ru_goesOutwards 9 rfl) rfl)) ?_
  refine zx_ac (ok_xzret (ok_iret (l := l) (B := B) (y := m_Ru_goesOutwards) (pc := 58) rfl (zd_dr dc_Ru_goesOutwards 10 rfl))) ?_
  refine zx_ac (xm_pk nt_aload (ok_aload_n (l := l) (B := B) (y := m_Ru_goesOutwards) (pc := 59) (k := 0) rfl (zd_dr dc_Ru_goesOutwards 11 rfl))) ?_
  refine zx_ac (ok_xgetr (ok_getf (l := l) (B := B) (y := m_Ru_goesOutwards) (pc := 60) hG (C := zR6) (T := zT6) (N := 4) (ci := 6) (k := 1) rfl zl6 (by decide) (List.mem_of_getElem? (i := 215) (by decide +kernel)) (zd_dr dc_Ru_goesOutwards 12 rfl))) ?_
  refine zx_ac (ok_xzret (ok_iret (l := l) (B := B) (y := m_Ru_goesOutwards) (pc := 63) rfl (zd_dr dc_Ru_goesOutwards 13 rfl))) ?_
  refine zx_ac (xm_pk nt_iload (ok_iload_n (l := l) (B := B) (y := m_Ru_goesOutwards) (pc := 64) (k := 2) rfl (zd_dr dc_Ru_goesOutwards 14 rfl))) ?_
  refine zx_ac (xm_pk nt_ci (ok_iconst (l := l) (B := B) (y := m_Ru_goesOutwards) (pc := 65) (n := (5)) (zd_dr dc_Ru_goesOutwards 15 rfl) rfl)) ?_
  refine zx_ac (xm_pk nt_icmp_lt (ok_icmp_lt (l := l) (B := B) (y := m_Ru_goesOutwards) (pc := 66) (zd_dr dc_Ru_goesOutwards 16 rfl) (by decide))) ?_
  refine zx_ac (xm_pk nt_ci (ok_iconst (l := l) (B := B) (y := m_Ru_goesOutwards) (pc := 69) (n := (1)) (zd_dr dc_Ru_goesOutwards 17 rfl) rfl)) ?_
  refine zx_ac (xm_pk nt_goto (ok_goto (l := l) (B := B) (y := m_Ru_goesOutwards) (pc := 70) (zd_dr dc_Ru_goesOutwards 18 rfl) (by decide))) ?_
  refine zx_ac (xm_pk nt_ci (ok_iconst (l := l) (B := B) (y := m_Ru_goesOutwards) (pc := 73) (n := (0)) (zd_dr dc_Ru_goesOutwards 19 rfl) rfl)) ?_
  refine zx_ac (ok_xzret (ok_iret (l := l) (B := B) (y := m_Ru_goesOutwards) (pc := 74) rfl (zd_dr dc_Ru_goesOutwards 20 rfl))) ?_
  refine zx_ac (xm_pk nt_iload (ok_iload_n (l := l) (B := B) (y := m_Ru_goesOutwards) (pc := 75) (k := 2) rfl (zd_dr dc_Ru_goesOutwards 21 rfl))) ?_
  refine zx_ac (xm_pk nt_ci (ok_iconst (l := l) (B := B) (y := m_Ru_goesOutwards) (pc := 76) (n := (5)) (zd_dr dc_Ru_goesOutwards 22 rfl) rfl)) ?_
  refine zx_ac (xm_pk nt_icmp_gt (ok_icmp_gt (l := l) (B := B) (y := m_Ru_goesOutwards) (pc := 77) (zd_dr dc_Ru_goesOutwards 23 rfl) (by decide))) ?_
  refine zx_ac (xm_pk nt_iload (ok_iload_n (l := l) (B := B) (y := m_Ru_goesOutwards) (pc := 80) (k := 2) rfl (zd_dr dc_Ru_goesOutwards 24 rfl))) ?_
  refine zx_ac (xm_pk nt_ci (ok_iconst (l := l) (B := B) (y := m_Ru_goesOutwards) (pc := 81) (n := (5)) (zd_dr dc_Ru_goesOutwards 25 rfl) rfl)) ?_
  refine zx_ac (xm_pk nt_icmp_ne (ok_icmp_ne (l := l) (B := B) (y := m_Ru_goesOutwards) (pc := 82) (zd_dr dc_Ru_goesOutwards 26 rfl) (by decide))) ?_
  refine zx_ac (xm_pk nt_iload (ok_iload_n (l := l) (B := B) (y := m_Ru_goesOutwards) (pc := 85) (k := 3) rfl (zd_dr dc_Ru_goesOutwards 27 rfl))) ?_
  refine zx_ac (xm_pk nt_if_eq (ok_if_eq (l := l) (B := B) (y := m_Ru_goesOutwards) (pc := 86) (zd_dr dc_Ru_goesOutwards 28 rfl) (by decide))) ?_
  refine zx_ac (xm_pk nt_ci (ok_iconst (l := l) (B := B) (y := m_Ru_goesOutwards) (pc := 89) (n := (1)) (zd_dr dc_Ru_goesOutwards 29 rfl) rfl)) ?_
  refine zx_ac (xm_pk nt_goto (ok_goto (l := l) (B := B) (y := m_Ru_goesOutwards) (pc := 90) (zd_dr dc_Ru_goesOutwards 30 rfl) (by decide))) ?_
  refine zx_ac (xm_pk nt_ci (ok_iconst (l := l) (B := B) (y := m_Ru_goesOutwards) (pc := 93) (n := (0)) (zd_dr dc_Ru_goesOutwards 31 rfl) rfl)) ?_
  refine zx_ac (ok_xzret (ok_iret (l := l) (B := B) (y := m_Ru_goesOutwards) (pc := 94) rfl (zd_dr dc_Ru_goesOutwards 32 rfl))) ?_
  refine zx_ac (xm_pk nt_iload (ok_iload_n (l := l) (B := B) (y := m_Ru_goesOutwards) (pc := 95) (k := 2) rfl (zd_dr dc_Ru_goesOutwards 33 rfl))) ?_
  refine zx_ac (xm_pk nt_ci (ok_iconst (l := l) (B := B) (y := m_Ru_goesOutwards) (pc := 96) (n := (5)) (zd_dr dc_Ru_goesOutwards 34 rfl) rfl)) ?_
  refine zx_ac (xm_pk nt_icmp_gt (ok_icmp_gt (l := l) (B := B) (y := m_Ru_goesOutwards) (pc := 97) (zd_dr dc_Ru_goesOutwards 35 rfl) (by decide))) ?_
  refine zx_ac (xm_pk nt_iload (ok_iload_n (l := l) (B := B) (y := m_Ru_goesOutwards) (pc := 100) (k := 2) rfl (zd_dr dc_Ru_goesOutwards 36 rfl))) ?_
  refine zx_ac (xm_pk nt_ci (ok_iconst (l := l) (B := B) (y := m_Ru_goesOutwards) (pc := 101) (n := (5)) (zd_dr dc_Ru_goesOutwards 37 rfl) rfl)) ?_
  refine zx_ac (xm_pk nt_icmp_ne (ok_icmp_ne (l := l) (B := B) (y := m_Ru_goesOutwards) (pc := 102) (zd_dr dc_Ru_goesOutwards 38 rfl) (by decide))) ?_
  refine zx_ac (xm_pk nt_iload (ok_iload_n (l := l) (B := B) (y := m_Ru_goesOutwards) (pc := 105) (k := 3) rfl (zd_dr dc_Ru_goesOutwards 39 rfl))) ?_
  refine zx_ac (xm_pk nt_if_ne (ok_if_ne (l := l) (B := B) (y := m_Ru_goesOutwards) (pc := 106) (zd_dr dc_Ru_goesOutwards 40 rfl) (by decide))) ?_
  refine zx_ac (xm_pk nt_aload (ok_aload_n (l := l) (B := B) (y := m_Ru_goesOutwards) (pc := 109) (k := 0) rfl (zd_dr dc_Ru_goesOutwards 41 rfl))) ?_
  refine zx_ac (ok_xgetr (ok_getf (l := l) (B := B) (y := m_Ru_goesOutwards) (pc := 110) hG (C := zR6) (T := zT6) (N := 4) (ci := 6) (k := 0) rfl zl6 (by decide) (List.mem_of_getElem? (i := 212) (by decide +kernel)) (zd_dr dc_Ru_goesOutwards 42 rfl))) ?_
  refine zx_ac (xm_pk nt_ci (ok_iconst (l := l) (B := B) (y := m_Ru_goesOutwards) (pc := 113) (n := (0)) (zd_dr dc_Ru_goesOutwards 43 rfl) rfl)) ?_
  refine zx_ac (ok_xcallv (ok_callv (l := l) (B := B) (y := m_Ru_goesOutwards) (pc := 114) hG (ci := 4) rfl cf_Ru_goesOutwards_Na_digitAt rfl (List.mem_of_getElem? (i := 647) (by decide +kernel)) (List.mem_of_getElem? (i := 648) (by decide +kernel)) (List.mem_of_getElem? (i := 649) (by decide +kernel)) (zd_dr dc_Ru_goesOutwards 44 rfl))) ?_
  refine zx_ac (xm_pk nt_ci (ok_iconst (l := l) (B := B) (y := m_Ru_goesOutwards) (pc := 117) (n := (2)) (zd_dr dc_Ru_goesOutwards 45 rfl) rfl)) ?_
  refine zx_ac (xm_pk nt_irem (ok_irem (l := l) (B := B) (y := m_Ru_goesOutwards) (pc := 118) (zd_dr dc_Ru_goesOutwards 46 rfl))) ?_
  refine zx_ac (xm_pk nt_if_eq (ok_if_eq (l := l) (B := B) (y := m_Ru_goesOutwards) (pc := 119) (zd_dr dc_Ru_goesOutwards 47 rfl) (by decide))) ?_
  refine zx_ac (xm_pk nt_ci (ok_iconst (l := l) (B := B) (y := m_Ru_goesOutwards) (pc := 122) (n := (1)) (zd_dr dc_Ru_goesOutwards 48 rfl) rfl)) ?_
  refine zx_ac (xm_pk nt_goto (ok_goto (l := l) (B := B) (y := m_Ru_goesOutwards) (pc := 123) (zd_dr dc_Ru_goesOutwards 49 rfl) (by decide))) ?_
  refine zx_ac (xm_pk nt_ci (ok_iconst (l := l) (B := B) (y := m_Ru_goesOutwards) (pc := 126) (n := (0)) (zd_dr dc_Ru_goesOutwards 50 rfl) rfl)) ?_
  refine zx_ac (ok_xzret (ok_iret (l := l) (B := B) (y := m_Ru_goesOutwards) (pc := 127) rfl (zd_dr dc_Ru_goesOutwards 51 rfl))) ?_
  refine zx_ac (xm_pk nt_ci (ok_iconst (l := l) (B := B) (y := m_Ru_goesOutwards) (pc := 128) (n := (0)) (zd_dr dc_Ru_goesOutwards 52 rfl) rfl)) ?_
  refine zx_ac (ok_xzret (ok_iret (l := l) (B := B) (y := m_Ru_goesOutwards) (pc := 129) rfl (zd_dr dc_Ru_goesOutwards 53 rfl))) ?_
  exact zx_an
def cx_Ru_fitPrecision (l : Launch) (B : zd_B) : List (Nat × zx_S) := [(0, xm_p (oc_aload 0 1)), (1, xm_getr 0 4), (4, xm_callv l B 4 m_Na_isZero 0 7), (7, xm_p (oc_if_eq 23 10)), (10, xm_p (oc_aload 0 11)), (11, xm_getr 3 14), (14, xm_p (oc_if_ne 23 17)), (17, xm_p (oc_aload 0 18)), (18, xm_p (oc_iload 2 19)), (19, xm_puts 22), (22, xm_vret), (23, xm_p (oc_aload 0 24)), (24, xm_p (oc_aload 0 25)), (25, xm_getr 2 28), (28, xm_p (oc_iload 1 29)), (29, xm_p (oc_iadd 30)), (30, xm_p (oc_ci (1) 31)), (31, xm_p (oc_iadd 32)), (32, xm_p (oc_aload 0 33)), (33, xm_getr 0 36), (36, xm_callv l B 4 m_Na_digits 0 39), (39, xm_p (oc_isub 40)), (40, xm_callv l B 6 m_Ru_cutTo 1 43), (43, xm_p (oc_aload 0 44)), (44, xm_getr 3 47), (47, xm_p (oc_if_ne 65 50)), (50, xm_p (oc_aload 0 51)), (51, xm_getr 0 54), (54, xm_p (oc_ci (0) 55)), (55, xm_callv l B 4 m_Na_digitAt 1 58), (58, xm_p (oc_if_ne 65 61)), (61, xm_p (oc_ci (1) 62)), (62, xm_p (oc_goto 66)), (65, xm_p (oc_ci (0) 66)), (66, xm_p (oc_istore 4 68)), (68, xm_p (oc_aload 0 69)), (69, xm_p (oc_iload 3 70)), (70, xm_callv l B 6 m_Ru_dropGuard 1 73), (73, xm_p (oc_iload 4 75)), (75, xm_p (oc_if_eq 114 78)), (78, xm_p (oc_ci (0) 79)), (79, xm_p (oc_aload 0 80)), (80, xm_getr 2 83), (83, xm_p (oc_iload 2 84)), (84, xm_p (oc_isub 85)), (85, xm_calls l B m_Ma_max 2 88), (88, xm_p (oc_istore 5 90)), (90, xm_p (oc_aload 0 91)), (91, xm_p (oc_aload 0 92)), (92, xm_getr 2 95), (95, xm_p (oc_iload 5 97)), (97, xm_p (oc_aload 0 98)), (98, xm_getr 0 101), (101, xm_callv l B 4 m_Na_trailingZeros 0 104), (104, xm_calls l B m_Ma_min 2 107), (107, xm_p (oc_isub 108)), (108, xm_callv l B 6 m_Ru_cutTo 1 111), (111, xm_p (oc_goto 135)), (114, xm_p (oc_aload 0 115)), (115, xm_getr 0 118), (118, xm_callv l B 4 m_Na_digits 0 121), (121, xm_p (oc_iload 1 122)), (122, xm_p (oc_icmp_le 135 125)), (125, xm_p (oc_aload 0 126)), (126, xm_p (oc_aload 0 127)), (127, xm_getr 2 130), (130, xm_p (oc_ci (1) 131)), (131, xm_p (oc_isub 132)), (132, xm_callv l B 6 m_Ru_cutTo 1 135), (135, xm_vret)]
set_option maxRecDepth 20000 in
theorem okx_Ru_fitPrecision {l : Launch} {B : zd_B} (hG : zd_G B) (hl : l.stackTraces = false) : ∀ q ∈ cx_Ru_fitPrecision l B, zx_ok l B m_Ru_fitPrecision q.1 q.2 := by
  unfold cx_Ru_fitPrecision
  refine zx_ac (xm_pk nt_aload (ok_aload_n (l := l) (B := B) (y := m_Ru_fitPrecision) (pc := 0) (k := 0) rfl (zd_dr dc_Ru_fitPrecision 0 rfl))) ?_
  refine zx_ac (ok_xgetr (ok_getf (l := l) (B := B) (y := m_Ru_fitPrecision) (pc := 1) hG (C := zR6) (T := zT6) (N := 4) (ci := 6) (k := 0) rfl zl6 (by decide) (List.mem_of_getElem? (i := 212) (by decide +kernel)) (zd_dr dc_Ru_fitPrecision 1 rfl))) ?_
  refine zx_ac (ok_xcallv (ok_callv (l := l) (B := B) (y := m_Ru_fitPrecision) (pc := 4) hG (ci := 4) rfl cf_Ru_fitPrecision_Na_isZero rfl (List.mem_of_getElem? (i := 679) (by decide +kernel)) (List.mem_of_getElem? (i := 490) (by decide +kernel)) (List.mem_of_getElem? (i := 491) (by decide +kernel)) (zd_dr dc_Ru_fitPrecision 2 rfl))) ?_
  refine zx_ac (xm_pk nt_if_eq (ok_if_eq (l := l) (B := B) (y := m_Ru_fitPrecision) (pc := 7) (zd_dr dc_Ru_fitPrecision 3 rfl) (by decide))) ?_
  refine zx_ac (xm_pk nt_aload (ok_aload_n (l := l) (B := B) (y := m_Ru_fitPrecision) (pc := 10) (k := 0) rfl (zd_dr dc_Ru_fitPrecision 4 rfl))) ?_
  refine zx_ac (ok_xgetr (ok_getf (l := l) (B := B) (y := m_Ru_fitPrecision) (pc := 11) hG (C := zR6) (T := zT6) (N := 4) (ci := 6) (k := 3) rfl zl6 (by decide) (List.mem_of_getElem? (i := 221) (by decide +kernel)) (zd_dr dc_Ru_fitPrecision 5 rfl))) ?_
  refine zx_ac (xm_pk nt_if_ne (ok_if_ne (l := l) (B := B) (y := m_Ru_fitPrecision) (pc := 14) (zd_dr dc_Ru_fitPrecision 6 rfl) (by decide))) ?_
  refine zx_ac (xm_pk nt_aload (ok_aload_n (l := l) (B := B) (y := m_Ru_fitPrecision) (pc := 17) (k := 0) rfl (zd_dr dc_Ru_fitPrecision 7 rfl))) ?_
  refine zx_ac (xm_pk nt_iload (ok_iload_n (l := l) (B := B) (y := m_Ru_fitPrecision) (pc := 18) (k := 2) rfl (zd_dr dc_Ru_fitPrecision 8 rfl))) ?_
  refine zx_ac (ok_xputs (ok_putf (l := l) (B := B) (y := m_Ru_fitPrecision) (pc := 19) hG (C := zR6) (T := zT6) (N := 4) (ci := 6) (k := 2) rfl zl6 zt6 (by decide) (List.mem_of_getElem? (i := 218) (by decide +kernel)) rfl (zd_dr dc_Ru_fitPrecision 9 rfl))) ?_
  refine zx_ac (ok_xvret (ok_vret (l := l) (B := B) (y := m_Ru_fitPrecision) (pc := 22) rfl (zd_dr dc_Ru_fitPrecision 10 rfl))) ?_
  refine zx_ac (xm_pk nt_aload (ok_aload_n (l := l) (B := B) (y := m_Ru_fitPrecision) (pc := 23) (k := 0) rfl (zd_dr dc_Ru_fitPrecision 11 rfl))) ?_
  refine zx_ac (xm_pk nt_aload (ok_aload_n (l := l) (B := B) (y := m_Ru_fitPrecision) (pc := 24) (k := 0) rfl (zd_dr dc_Ru_fitPrecision 12 rfl))) ?_
  refine zx_ac (ok_xgetr (ok_getf (l := l) (B := B) (y := m_Ru_fitPrecision) (pc := 25) hG (C := zR6) (T := zT6) (N := 4) (ci := 6) (k := 2) rfl zl6 (by decide) (List.mem_of_getElem? (i := 218) (by decide +kernel)) (zd_dr dc_Ru_fitPrecision 13 rfl))) ?_
  refine zx_ac (xm_pk nt_iload (ok_iload_n (l := l) (B := B) (y := m_Ru_fitPrecision) (pc := 28) (k := 1) rfl (zd_dr dc_Ru_fitPrecision 14 rfl))) ?_
  refine zx_ac (xm_pk nt_iadd (ok_iadd (l := l) (B := B) (y := m_Ru_fitPrecision) (pc := 29) (zd_dr dc_Ru_fitPrecision 15 rfl))) ?_
  refine zx_ac (xm_pk nt_ci (ok_iconst (l := l) (B := B) (y := m_Ru_fitPrecision) (pc := 30) (n := (1)) (zd_dr dc_Ru_fitPrecision 16 rfl) rfl)) ?_
  refine zx_ac (xm_pk nt_iadd (ok_iadd (l := l) (B := B) (y := m_Ru_fitPrecision) (pc := 31) (zd_dr dc_Ru_fitPrecision 17 rfl))) ?_
  refine zx_ac (xm_pk nt_aload (ok_aload_n (l := l) (B := B) (y := m_Ru_fitPrecision) (pc := 32) (k := 0) rfl (zd_dr dc_Ru_fitPrecision 18 rfl))) ?_
  refine zx_ac (ok_xgetr (ok_getf (l := l) (B := B) (y := m_Ru_fitPrecision) (pc := 33) hG (C := zR6) (T := zT6) (N := 4) (ci := 6) (k := 0) rfl zl6 (by decide) (List.mem_of_getElem? (i := 212) (by decide +kernel)) (zd_dr dc_Ru_fitPrecision 19 rfl))) ?_
  refine zx_ac (ok_xcallv (ok_callv (l := l) (B := B) (y := m_Ru_fitPrecision) (pc := 36) hG (ci := 4) rfl cf_Ru_fitPrecision_Na_digits rfl (List.mem_of_getElem? (i := 680) (by decide +kernel)) (List.mem_of_getElem? (i := 474) (by decide +kernel)) (List.mem_of_getElem? (i := 475) (by decide +kernel)) (zd_dr dc_Ru_fitPrecision 20 rfl))) ?_
  refine zx_ac (xm_pk nt_isub (ok_isub (l := l) (B := B) (y := m_Ru_fitPrecision) (pc := 39) (zd_dr dc_Ru_fitPrecision 21 rfl))) ?_
  refine zx_ac (ok_xcallv (ok_callv (l := l) (B := B) (y := m_Ru_fitPrecision) (pc := 40) hG (ci := 6) rfl cf_Ru_fitPrecision_Ru_cutTo rfl (List.mem_of_getElem? (i := 651) (by decide +kernel)) (List.mem_of_getElem? (i := 533) (by decide +kernel)) (List.mem_of_getElem? (i := 534) (by decide +kernel)) (zd_dr dc_Ru_fitPrecision 22 rfl))) ?_
  refine zx_ac (xm_pk nt_aload (ok_aload_n (l := l) (B := B) (y := m_Ru_fitPrecision) (pc := 43) (k := 0) rfl (zd_dr dc_Ru_fitPrecision 23 rfl))) ?_
  refine zx_ac (ok_xgetr (ok_getf (l := l) (B := B) (y := m_Ru_fitPrecision) (pc := 44) hG (C := zR6) (T := zT6) (N := 4) (ci := 6) (k := 3) rfl zl6 (by decide) (List.mem_of_getElem? (i := 221) (by decide +kernel)) (zd_dr dc_Ru_fitPrecision 24 rfl))) ?_
  refine zx_ac (xm_pk nt_if_ne (ok_if_ne (l := l) (B := B) (y := m_Ru_fitPrecision) (pc := 47) (zd_dr dc_Ru_fitPrecision 25 rfl) (by decide))) ?_
  refine zx_ac (xm_pk nt_aload (ok_aload_n (l := l) (B := B) (y := m_Ru_fitPrecision) (pc := 50) (k := 0) rfl (zd_dr dc_Ru_fitPrecision 26 rfl))) ?_
  refine zx_ac (ok_xgetr (ok_getf (l := l) (B := B) (y := m_Ru_fitPrecision) (pc := 51) hG (C := zR6) (T := zT6) (N := 4) (ci := 6) (k := 0) rfl zl6 (by decide) (List.mem_of_getElem? (i := 212) (by decide +kernel)) (zd_dr dc_Ru_fitPrecision 27 rfl))) ?_
  refine zx_ac (xm_pk nt_ci (ok_iconst (l := l) (B := B) (y := m_Ru_fitPrecision) (pc := 54) (n := (0)) (zd_dr dc_Ru_fitPrecision 28 rfl) rfl)) ?_
  refine zx_ac (ok_xcallv (ok_callv (l := l) (B := B) (y := m_Ru_fitPrecision) (pc := 55) hG (ci := 4) rfl cf_Ru_fitPrecision_Na_digitAt rfl (List.mem_of_getElem? (i := 647) (by decide +kernel)) (List.mem_of_getElem? (i := 648) (by decide +kernel)) (List.mem_of_getElem? (i := 649) (by decide +kernel)) (zd_dr dc_Ru_fitPrecision 29 rfl))) ?_
  refine zx_ac (xm_pk nt_if_ne (ok_if_ne (l := l) (B := B) (y := m_Ru_fitPrecision) (pc := 58) (zd_dr dc_Ru_fitPrecision 30 rfl) (by decide))) ?_
  refine zx_ac (xm_pk nt_ci (ok_iconst (l := l) (B := B) (y := m_Ru_fitPrecision) (pc := 61) (n := (1)) (zd_dr dc_Ru_fitPrecision 31 rfl) rfl)) ?_
  refine zx_ac (xm_pk nt_goto (ok_goto (l := l) (B := B) (y := m_Ru_fitPrecision) (pc := 62) (zd_dr dc_Ru_fitPrecision 32 rfl) (by decide))) ?_
  refine zx_ac (xm_pk nt_ci (ok_iconst (l := l) (B := B) (y := m_Ru_fitPrecision) (pc := 65) (n := (0)) (zd_dr dc_Ru_fitPrecision 33 rfl) rfl)) ?_
  refine zx_ac (xm_pk nt_istore (ok_istore (l := l) (B := B) (y := m_Ru_fitPrecision) (pc := 66) (zd_dr dc_Ru_fitPrecision 34 rfl) (by decide))) ?_
  refine zx_ac (xm_pk nt_aload (ok_aload_n (l := l) (B := B) (y := m_Ru_fitPrecision) (pc := 68) (k := 0) rfl (zd_dr dc_Ru_fitPrecision 35 rfl))) ?_
  refine zx_ac (xm_pk nt_iload (ok_iload_n (l := l) (B := B) (y := m_Ru_fitPrecision) (pc := 69) (k := 3) rfl (zd_dr dc_Ru_fitPrecision 36 rfl))) ?_
  refine zx_ac (ok_xcallv (ok_callv (l := l) (B := B) (y := m_Ru_fitPrecision) (pc := 70) hG (ci := 6) rfl cf_Ru_fitPrecision_Ru_dropGuard rfl (List.mem_of_getElem? (i := 681) (by decide +kernel)) (List.mem_of_getElem? (i := 644) (by decide +kernel)) (List.mem_of_getElem? (i := 645) (by decide +kernel)) (zd_dr dc_Ru_fitPrecision 37 rfl))) ?_
  refine zx_ac (xm_pk nt_iload (ok_iload (l := l) (B := B) (y := m_Ru_fitPrecision) (pc := 73) (zd_dr dc_Ru_fitPrecision 38 rfl))) ?_
  refine zx_ac (xm_pk nt_if_eq (ok_if_eq (l := l) (B := B) (y := m_Ru_fitPrecision) (pc := 75) (zd_dr dc_Ru_fitPrecision 39 rfl) (by decide))) ?_
  refine zx_ac (xm_pk nt_ci (ok_iconst (l := l) (B := B) (y := m_Ru_fitPrecision) (pc := 78) (n := (0)) (zd_dr dc_Ru_fitPrecision 40 rfl) rfl)) ?_
  refine zx_ac (xm_pk nt_aload (ok_aload_n (l := l) (B := B) (y := m_Ru_fitPrecision) (pc := 79) (k := 0) rfl (zd_dr dc_Ru_fitPrecision 41 rfl))) ?_
  refine zx_ac (ok_xgetr (ok_getf (l := l) (B := B) (y := m_Ru_fitPrecision) (pc := 80) hG (C := zR6) (T := zT6) (N := 4) (ci := 6) (k := 2) rfl zl6 (by decide) (List.mem_of_getElem? (i := 218) (by decide +kernel)) (zd_dr dc_Ru_fitPrecision 42 rfl))) ?_
  refine zx_ac (xm_pk nt_iload (ok_iload_n (l := l) (B := B) (y := m_Ru_fitPrecision) (pc := 83) (k := 2) rfl (zd_dr dc_Ru_fitPrecision 43 rfl))) ?_
  refine zx_ac (xm_pk nt_isub (ok_isub (l := l) (B := B) (y := m_Ru_fitPrecision) (pc := 84) (zd_dr dc_Ru_fitPrecision 44 rfl))) ?_
  refine zx_ac (ok_xcalls (ok_calls (l := l) (B := B) (y := m_Ru_fitPrecision) (pc := 85) hG cf_Ru_fitPrecision_Ma_max rfl (List.mem_of_getElem? (i := 682) (by decide +kernel)) (List.mem_of_getElem? (i := 524) (by decide +kernel)) (List.mem_of_getElem? (i := 72) (by decide +kernel)) (zd_dr dc_Ru_fitPrecision 45 rfl))) ?_
  refine zx_ac (xm_pk nt_istore (ok_istore (l := l) (B := B) (y := m_Ru_fitPrecision) (pc := 88) (zd_dr dc_Ru_fitPrecision 46 rfl) (by decide))) ?_
  refine zx_ac (xm_pk nt_aload (ok_aload_n (l := l) (B := B) (y := m_Ru_fitPrecision) (pc := 90) (k := 0) rfl (zd_dr dc_Ru_fitPrecision 47 rfl))) ?_
  refine zx_ac (xm_pk nt_aload (ok_aload_n (l := l) (B := B) (y := m_Ru_fitPrecision) (pc := 91) (k := 0) rfl (zd_dr dc_Ru_fitPrecision 48 rfl))) ?_
  refine zx_ac (ok_xgetr (ok_getf (l := l) (B := B) (y := m_Ru_fitPrecision) (pc := 92) hG (C := zR6) (T := zT6) (N := 4) (ci := 6) (k := 2) rfl zl6 (by decide) (List.mem_of_getElem? (i := 218) (by decide +kernel)) (zd_dr dc_Ru_fitPrecision 49 rfl))) ?_
  refine zx_ac (xm_pk nt_iload (ok_iload (l := l) (B := B) (y := m_Ru_fitPrecision) (pc := 95) (zd_dr dc_Ru_fitPrecision 50 rfl))) ?_
  refine zx_ac (xm_pk nt_aload (ok_aload_n (l := l) (B := B) (y := m_Ru_fitPrecision) (pc := 97) (k := 0) rfl (zd_dr dc_Ru_fitPrecision 51 rfl))) ?_
  refine zx_ac (ok_xgetr (ok_getf (l := l) (B := B) (y := m_Ru_fitPrecision) (pc := 98) hG (C := zR6) (T := zT6) (N := 4) (ci := 6) (k := 0) rfl zl6 (by decide) (List.mem_of_getElem? (i := 212) (by decide +kernel)) (zd_dr dc_Ru_fitPrecision 52 rfl))) ?_
  refine zx_ac (ok_xcallv (ok_callv (l := l) (B := B) (y := m_Ru_fitPrecision) (pc := 101) hG (ci := 4) rfl cf_Ru_fitPrecision_Na_trailingZeros rfl (List.mem_of_getElem? (i := 683) (by decide +kernel)) (List.mem_of_getElem? (i := 684) (by decide +kernel)) (List.mem_of_getElem? (i := 685) (by decide +kernel)) (zd_dr dc_Ru_fitPrecision 53 rfl))) ?_
  refine zx_ac (ok_xcalls (ok_calls (l := l) (B := B) (y := m_Ru_fitPrecision) (pc := 104) hG cf_Ru_fitPrecision_Ma_min rfl (List.mem_of_getElem? (i := 687) (by decide +kernel)) (List.mem_of_getElem? (i := 688) (by decide +kernel)) (List.mem_of_getElem? (i := 72) (by decide +kernel)) (zd_dr dc_Ru_fitPrecision 54 rfl))) ?_
  refine zx_ac (xm_pk nt_isub (ok_isub (l := l) (B := B) (y := m_Ru_fitPrecision) (pc := 107) (zd_dr dc_Ru_fitPrecision 55 rfl))) ?_
  refine zx_ac (ok_xcallv (ok_callv (l := l) (B := B) (y := m_Ru_fitPrecision) (pc := 108) hG (ci := 6) rfl cf_Ru_fitPrecision_Ru_cutTo rfl (List.mem_of_getElem? (i := 651) (by decide +kernel)) (List.mem_of_getElem? (i := 533) (by decide +kernel)) (List.mem_of_getElem? (i := 534) (by decide +kernel)) (zd_dr dc_Ru_fitPrecision 56 rfl))) ?_
  refine zx_ac (xm_pk nt_goto (ok_goto (l := l) (B := B) (y := m_Ru_fitPrecision) (pc := 111) (zd_dr dc_Ru_fitPrecision 57 rfl) (by decide))) ?_
  refine zx_ac (xm_pk nt_aload (ok_aload_n (l := l) (B := B) (y := m_Ru_fitPrecision) (pc := 114) (k := 0) rfl (zd_dr dc_Ru_fitPrecision 58 rfl))) ?_
  refine zx_ac (ok_xgetr (ok_getf (l := l) (B := B) (y := m_Ru_fitPrecision) (pc := 115) hG (C := zR6) (T := zT6) (N := 4) (ci := 6) (k := 0) rfl zl6 (by decide) (List.mem_of_getElem? (i := 212) (by decide +kernel)) (zd_dr dc_Ru_fitPrecision 59 rfl))) ?_
  refine zx_ac (ok_xcallv (ok_callv (l := l) (B := B) (y := m_Ru_fitPrecision) (pc := 118) hG (ci := 4) rfl cf_Ru_fitPrecision_Na_digits rfl (List.mem_of_getElem? (i := 680) (by decide +kernel)) (List.mem_of_getElem? (i := 474) (by decide +kernel)) (List.mem_of_getElem? (i := 475) (by decide +kernel)) (zd_dr dc_Ru_fitPrecision 60 rfl))) ?_
  refine zx_ac (xm_pk nt_iload (ok_iload_n (l := l) (B := B) (y := m_Ru_fitPrecision) (pc := 121) (k := 1) rfl (zd_dr dc_Ru_fitPrecision 61 rfl))) ?_
  refine zx_ac (xm_pk nt_icmp_le (ok_icmp_le (l := l) (B := B) (y := m_Ru_fitPrecision) (pc := 122) (zd_dr dc_Ru_fitPrecision 62 rfl) (by decide))) ?_
  refine zx_ac (xm_pk nt_aload (ok_aload_n (l := l) (B := B) (y := m_Ru_fitPrecision) (pc := 125) (k := 0) rfl (zd_dr dc_Ru_fitPrecision 63 rfl))) ?_
  refine zx_ac (xm_pk nt_aload (ok_aload_n (l := l) (B := B) (y := m_Ru_fitPrecision) (pc := 126) (k := 0) rfl (zd_dr dc_Ru_fitPrecision 64 rfl))) ?_
  refine zx_ac (ok_xgetr (ok_getf (l := l) (B := B) (y := m_Ru_fitPrecision) (pc := 127) hG (C := zR6) (T := zT6) (N := 4) (ci := 6) (k := 2) rfl zl6 (by decide) (List.mem_of_getElem? (i := 218) (by decide +kernel)) (zd_dr dc_Ru_fitPrecision 65 rfl))) ?_
  refine zx_ac (xm_pk nt_ci (ok_iconst (l := l) (B := B) (y := m_Ru_fitPrecision) (pc := 130) (n := (1)) (zd_dr dc_Ru_fitPrecision 66 rfl) rfl)) ?_
  refine zx_ac (xm_pk nt_isub (ok_isub (l := l) (B := B) (y := m_Ru_fitPrecision) (pc := 131) (zd_dr dc_Ru_fitPrecision 67 rfl))) ?_
  refine zx_ac (ok_xcallv (ok_callv (l := l) (B := B) (y := m_Ru_fitPrecision) (pc := 132) hG (ci := 6) rfl cf_Ru_fitPrecision_Ru_cutTo rfl (List.mem_of_getElem? (i := 651) (by decide +kernel)) (List.mem_of_getElem? (i := 533) (by decide +kernel)) (List.mem_of_getElem? (i := 534) (by decide +kernel)) (zd_dr dc_Ru_fitPrecision 68 rfl))) ?_
  refine zx_ac (ok_xvret (ok_vret (l := l) (B := B) (y := m_Ru_fitPrecision) (pc := 135) rfl (zd_dr dc_Ru_fitPrecision 69 rfl))) ?_
  exact zx_an
theorem zx_De_188_256_192 : zx_F "DecimalDesk" 188 256 192 "java/lang/IllegalArgumentException" "a mode is 0 .. 7" := ⟨(List.mem_of_getElem? (i := 300) (by decide +kernel)), (List.mem_of_getElem? (i := 68) (by decide +kernel)), (List.mem_of_getElem? (i := 593) (by decide +kernel)), (List.mem_of_getElem? (i := 343) (by decide +kernel))⟩
theorem zx_De_188_258_192 : zx_F "DecimalDesk" 188 258 192 "java/lang/IllegalArgumentException" "no such precision" := ⟨(List.mem_of_getElem? (i := 300) (by decide +kernel)), (List.mem_of_getElem? (i := 68) (by decide +kernel)), (List.mem_of_getElem? (i := 674) (by decide +kernel)), (List.mem_of_getElem? (i := 343) (by decide +kernel))⟩
theorem zx_De_188_268_192 : zx_F "DecimalDesk" 188 268 192 "java/lang/IllegalArgumentException" "a scale is -10000 .. 10000" := ⟨(List.mem_of_getElem? (i := 300) (by decide +kernel)), (List.mem_of_getElem? (i := 68) (by decide +kernel)), (List.mem_of_getElem? (i := 597) (by decide +kernel)), (List.mem_of_getElem? (i := 343) (by decide +kernel))⟩
theorem zx_De_196_270_200 : zx_F "DecimalDesk" 196 270 200 "java/lang/ArithmeticException" "a scale that no register can have" := ⟨(List.mem_of_getElem? (i := 417) (by decide +kernel)), (List.mem_of_getElem? (i := 70) (by decide +kernel)), (List.mem_of_getElem? (i := 426) (by decide +kernel)), (List.mem_of_getElem? (i := 427) (by decide +kernel))⟩
theorem zx_De_196_272_200 : zx_F "DecimalDesk" 196 272 200 "java/lang/ArithmeticException" "more digits than a register can have" := ⟨(List.mem_of_getElem? (i := 417) (by decide +kernel)), (List.mem_of_getElem? (i := 70) (by decide +kernel)), (List.mem_of_getElem? (i := 477) (by decide +kernel)), (List.mem_of_getElem? (i := 427) (by decide +kernel))⟩
theorem zx_De_196_274_200 : zx_F "DecimalDesk" 196 274 200 "java/lang/ArithmeticException" "divided by 0" := ⟨(List.mem_of_getElem? (i := 417) (by decide +kernel)), (List.mem_of_getElem? (i := 70) (by decide +kernel)), (List.mem_of_getElem? (i := 602) (by decide +kernel)), (List.mem_of_getElem? (i := 427) (by decide +kernel))⟩
theorem cf_De_addSigned_Na_copy : zd_cf m_De_addSigned m_Na_copy 1 := ⟨(List.mem_of_getElem? (i := 485) (by decide +kernel)), by decide +kernel, by decide, by decide, ⟨by decide, by decide⟩, by decide +kernel⟩
theorem cf_De_addSigned_Na_lowerBy : zd_cf m_De_addSigned m_Na_lowerBy 1 := ⟨(List.mem_of_getElem? (i := 571) (by decide +kernel)), by decide +kernel, by decide, by decide, ⟨by decide, by decide⟩, by decide +kernel⟩
theorem cf_De_addSigned_Na_order : zd_cf m_De_addSigned m_Na_order 1 := ⟨(List.mem_of_getElem? (i := 564) (by decide +kernel)), by decide +kernel, by decide, by decide, ⟨by decide, by decide⟩, by decide +kernel⟩
theorem cf_De_addSigned_Na_raiseBy : zd_cf m_De_addSigned m_Na_raiseBy 1 := ⟨(List.mem_of_getElem? (i := 559) (by decide +kernel)), by decide +kernel, by decide, by decide, ⟨by decide, by decide⟩, by decide +kernel⟩
theorem cf_De_align_Ma_max : zd_cf m_De_align m_Ma_max 2 := ⟨(List.mem_of_getElem? (i := 525) (by decide +kernel)), by decide +kernel, by decide, by decide, ⟨by decide, by decide⟩, by decide +kernel⟩
theorem cf_De_align_Na_copy : zd_cf m_De_align m_Na_copy 1 := ⟨(List.mem_of_getElem? (i := 485) (by decide +kernel)), by decide +kernel, by decide, by decide, ⟨by decide, by decide⟩, by decide +kernel⟩
theorem cf_De_align_Na_move : zd_cf m_De_align m_Na_move 1 := ⟨(List.mem_of_getElem? (i := 539) (by decide +kernel)), by decide +kernel, by decide, by decide, ⟨by decide, by decide⟩, by decide +kernel⟩
theorem cf_De_align_Ru_cutTo : zd_cf m_De_align m_Ru_cutTo 1 := ⟨(List.mem_of_getElem? (i := 535) (by decide +kernel)), by decide +kernel, by decide, by decide, ⟨by decide, by decide⟩, by decide +kernel⟩
theorem cf_De_align_Ru_take : zd_cf m_De_align m_Ru_take 1 := ⟨(List.mem_of_getElem? (i := 529) (by decide +kernel)), by decide +kernel, by decide, by decide, ⟨by decide, by decide⟩, by decide +kernel⟩
theorem cf_De_demandDigits_Na_digits : zd_cf m_De_demandDigits m_Na_digits 0 := ⟨(List.mem_of_getElem? (i := 476) (by decide +kernel)), by decide +kernel, by decide, by decide, ⟨by decide, by decide⟩, by decide +kernel⟩
theorem cf_De_demandDivisor_Na_isZero : zd_cf m_De_demandDivisor m_Na_isZero 0 := ⟨(List.mem_of_getElem? (i := 492) (by decide +kernel)), by decide +kernel, by decide, by decide, ⟨by decide, by decide⟩, by decide +kernel⟩
theorem cf_De_demandRegisters2_De_demandRegister : zd_cf m_De_demandRegisters2 m_De_demandRegister 1 := ⟨(List.mem_of_getElem? (i := 299) (by decide +kernel)), by decide +kernel, by decide, by decide, ⟨by decide, by decide⟩, by decide +kernel⟩
theorem cf_De_demandRegisters3_De_demandRegister : zd_cf m_De_demandRegisters3 m_De_demandRegister 1 := ⟨(List.mem_of_getElem? (i := 299) (by decide +kernel)), by decide +kernel, by decide, by decide, ⟨by decide, by decide⟩, by decide +kernel⟩
theorem cf_De_demandRegisters3_De_demandRegisters2 : zd_cf m_De_demandRegisters3 m_De_demandRegisters2 2 := ⟨(List.mem_of_getElem? (i := 518) (by decide +kernel)), by decide +kernel, by decide, by decide, ⟨by decide, by decide⟩, by decide +kernel⟩
theorem cf_De_demandScale_De_isScale : zd_cf m_De_demandScale m_De_isScale 1 := ⟨(List.mem_of_getElem? (i := 414) (by decide +kernel)), by decide +kernel, by decide, by decide, ⟨by decide, by decide⟩, by decide +kernel⟩
theorem cf_De_demandWantedScale_De_isScale : zd_cf m_De_demandWantedScale m_De_isScale 1 := ⟨(List.mem_of_getElem? (i := 414) (by decide +kernel)), by decide +kernel, by decide, by decide, ⟨by decide, by decide⟩, by decide +kernel⟩
theorem cf_De_divideRough_Dv_split : zd_cf m_De_divideRough m_Dv_split 3 := ⟨(List.mem_of_getElem? (i := 610) (by decide +kernel)), by decide +kernel, by decide, by decide, ⟨by decide, by decide⟩, by decide +kernel⟩
theorem cf_De_divideRough_Na_copy : zd_cf m_De_divideRough m_Na_copy 1 := ⟨(List.mem_of_getElem? (i := 485) (by decide +kernel)), by decide +kernel, by decide, by decide, ⟨by decide, by decide⟩, by decide +kernel⟩
theorem cf_De_divideRough_Na_isZero : zd_cf m_De_divideRough m_Na_isZero 0 := ⟨(List.mem_of_getElem? (i := 492) (by decide +kernel)), by decide +kernel, by decide, by decide, ⟨by decide, by decide⟩, by decide +kernel⟩
theorem cf_De_divideRough_Ru_cutTo : zd_cf m_De_divideRough m_Ru_cutTo 1 := ⟨(List.mem_of_getElem? (i := 535) (by decide +kernel)), by decide +kernel, by decide, by decide, ⟨by decide, by decide⟩, by decide +kernel⟩
theorem cf_De_growRough_De_demandDigits : zd_cf m_De_growRough m_De_demandDigits 1 := ⟨(List.mem_of_getElem? (i := 472) (by decide +kernel)), by decide +kernel, by decide, by decide, ⟨by decide, by decide⟩, by decide +kernel⟩
theorem cf_De_growRough_Na_becomeProduct : zd_cf m_De_growRough m_Na_becomeProduct 2 := ⟨(List.mem_of_getElem? (i := 582) (by decide +kernel)), by decide +kernel, by decide, by decide, ⟨by decide, by decide⟩, by decide +kernel⟩
theorem cf_De_growRough_Na_copy : zd_cf m_De_growRough m_Na_copy 1 := ⟨(List.mem_of_getElem? (i := 485) (by decide +kernel)), by decide +kernel, by decide, by decide, ⟨by decide, by decide⟩, by decide +kernel⟩
theorem cf_De_keep_Dc_accept : zd_cf m_De_keep m_Dc_accept 1 := ⟨(List.mem_of_getElem? (i := 481) (by decide +kernel)), by decide +kernel, by decide, by decide, ⟨by decide, by decide⟩, by decide +kernel⟩
theorem cf_De_keep_De_demandDigits : zd_cf m_De_keep m_De_demandDigits 1 := ⟨(List.mem_of_getElem? (i := 472) (by decide +kernel)), by decide +kernel, by decide, by decide, ⟨by decide, by decide⟩, by decide +kernel⟩
theorem cf_De_keep_De_demandScale : zd_cf m_De_keep m_De_demandScale 1 := ⟨(List.mem_of_getElem? (i := 411) (by decide +kernel)), by decide +kernel, by decide, by decide, ⟨by decide, by decide⟩, by decide +kernel⟩
theorem cf_De_orderOfSizes_De_align : zd_cf m_De_orderOfSizes m_De_align 2 := ⟨(List.mem_of_getElem? (i := 522) (by decide +kernel)), by decide +kernel, by decide, by decide, ⟨by decide, by decide⟩, by decide +kernel⟩
theorem cf_De_orderOfSizes_In_compare : zd_cf m_De_orderOfSizes m_In_compare 2 := ⟨(List.mem_of_getElem? (i := 567) (by decide +kernel)), by decide +kernel, by decide, by decide, ⟨by decide, by decide⟩, by decide +kernel⟩
theorem cf_De_orderOfSizes_Na_digits : zd_cf m_De_orderOfSizes m_Na_digits 0 := ⟨(List.mem_of_getElem? (i := 476) (by decide +kernel)), by decide +kernel, by decide, by decide, ⟨by decide, by decide⟩, by decide +kernel⟩
theorem cf_De_orderOfSizes_Na_order : zd_cf m_De_orderOfSizes m_Na_order 1 := ⟨(List.mem_of_getElem? (i := 564) (by decide +kernel)), by decide +kernel, by decide, by decide, ⟨by decide, by decide⟩, by decide +kernel⟩
theorem cf_De_reduceRaised_Dv_split : zd_cf m_De_reduceRaised m_Dv_split 3 := ⟨(List.mem_of_getElem? (i := 610) (by decide +kernel)), by decide +kernel, by decide, by decide, ⟨by decide, by decide⟩, by decide +kernel⟩
theorem cf_De_reduceRaised_Ma_min : zd_cf m_De_reduceRaised m_Ma_min 2 := ⟨(List.mem_of_getElem? (i := 689) (by decide +kernel)), by decide +kernel, by decide, by decide, ⟨by decide, by decide⟩, by decide +kernel⟩
theorem cf_De_reduceRaised_Na_move : zd_cf m_De_reduceRaised m_Na_move 1 := ⟨(List.mem_of_getElem? (i := 539) (by decide +kernel)), by decide +kernel, by decide, by decide, ⟨by decide, by decide⟩, by decide +kernel⟩
def dl_De_demandRegisters2 : List (Nat × Instr × Nat) := [(0, .iload_n 0, 1), (1, .invokestatic 73, 3), (4, .iload_n 1, 1), (5, .invokestatic 73, 3), (8, .return_, 1)]
theorem dc_De_demandRegisters2 : ∀ q ∈ dl_De_demandRegisters2, decode (zd_yb m_De_demandRegisters2) q.1 = .ok q.2 := by decide +kernel
def cx_De_demandRegisters2 (l : Launch) (B : zd_B) : List (Nat × zx_S) := [(0, xm_p (oc_iload 0 1)), (1, xm_calls l B m_De_demandRegister 1 4), (4, xm_p (oc_iload 1 5)), (5, xm_calls l B m_De_demandRegister 1 8), (8, xm_vret)]
set_option maxRecDepth 20000 in
theorem okx_De_demandRegisters2 {l : Launch} {B : zd_B} (hG : zd_G B) (hl : l.stackTraces = false) : ∀ q ∈ cx_De_demandRegisters2 l B, zx_ok l B m_De_demandRegisters2 q.1 q.2 := by
  unfold cx_De_demandRegisters2
  refine zx_ac (xm_pk nt_iload (ok_iload_n (l := l) (B := B) (y := m_De_demandRegisters2) (pc := 0) (k := 0) rfl (zd_dr dc_De_demandRegisters2 0 rfl))) ?_
  refine zx_ac (ok_xcalls (ok_calls (l := l) (B := B) (y := m_De_demandRegisters2) (pc := 1) hG cf_De_demandRegisters2_De_demandRegister rfl (List.mem_of_getElem? (i := 297) (by decide +kernel)) (List.mem_of_getElem? (i := 298) (by decide +kernel)) (List.mem_of_getElem? (i := 56) (by decide +kernel)) (zd_dr dc_De_demandRegisters2 1 rfl))) ?_
  refine zx_ac (xm_pk nt_iload (ok_iload_n (l := l) (B := B) (y := m_De_demandRegisters2) (pc := 4) (k := 1) rfl (zd_dr dc_De_demandRegisters2 2 rfl))) ?_
  refine zx_ac (ok_xcalls (ok_calls (l := l) (B := B) (y := m_De_demandRegisters2) (pc := 5) hG cf_De_demandRegisters2_De_demandRegister rfl (List.mem_of_getElem? (i := 297) (by decide +kernel)) (List.mem_of_getElem? (i := 298) (by decide +kernel)) (List.mem_of_getElem? (i := 56) (by decide +kernel)) (zd_dr dc_De_demandRegisters2 3 rfl))) ?_
  refine zx_ac (ok_xvret (ok_vret (l := l) (B := B) (y := m_De_demandRegisters2) (pc := 8) rfl (zd_dr dc_De_demandRegisters2 4 rfl))) ?_
  exact zx_an
def dl_De_demandRegisters3 : List (Nat × Instr × Nat) := [(0, .iload_n 0, 1), (1, .iload_n 1, 1), (2, .invokestatic 186, 3), (5, .iload_n 2, 1), (6, .invokestatic 73, 3), (9, .return_, 1)]
theorem dc_De_demandRegisters3 : ∀ q ∈ dl_De_demandRegisters3, decode (zd_yb m_De_demandRegisters3) q.1 = .ok q.2 := by decide +kernel
def cx_De_demandRegisters3 (l : Launch) (B : zd_B) : List (Nat × zx_S) := [(0, xm_p (oc_iload 0 1)), (1, xm_p (oc_iload 1 2)), (2, xm_calls l B m_De_demandRegisters2 2 5), (5, xm_p (oc_iload 2 6)), (6, xm_calls l B m_De_demandRegister 1 9), (9, xm_vret)]
set_option maxRecDepth 20000 in
theorem okx_De_demandRegisters3 {l : Launch} {B : zd_B} (hG : zd_G B) (hl : l.stackTraces = false) : ∀ q ∈ cx_De_demandRegisters3 l B, zx_ok l B m_De_demandRegisters3 q.1 q.2 := by
  unfold cx_De_demandRegisters3
  refine zx_ac (xm_pk nt_iload (ok_iload_n (l := l) (B := B) (y := m_De_demandRegisters3) (pc := 0) (k := 0) rfl (zd_dr dc_De_demandRegisters3 0 rfl))) ?_
  refine zx_ac (xm_pk nt_iload (ok_iload_n (l := l) (B := B) (y := m_De_demandRegisters3) (pc := 1) (k := 1) rfl (zd_dr dc_De_demandRegisters3 1 rfl))) ?_
  refine zx_ac (ok_xcalls (ok_calls (l := l) (B := B) (y := m_De_demandRegisters3) (pc := 2) hG cf_De_demandRegisters3_De_demandRegisters2 rfl (List.mem_of_getElem? (i := 516) (by decide +kernel)) (List.mem_of_getElem? (i := 517) (by decide +kernel)) (List.mem_of_getElem? (i := 56) (by decide +kernel)) (zd_dr dc_De_demandRegisters3 2 rfl))) ?_
  refine zx_ac (xm_pk nt_iload (ok_iload_n (l := l) (B := B) (y := m_De_demandRegisters3) (pc := 5) (k := 2) rfl (zd_dr dc_De_demandRegisters3 3 rfl))) ?_
  refine zx_ac (ok_xcalls (ok_calls (l := l) (B := B) (y := m_De_demandRegisters3) (pc := 6) hG cf_De_demandRegisters3_De_demandRegister rfl (List.mem_of_getElem? (i := 297) (by decide +kernel)) (List.mem_of_getElem? (i := 298) (by decide +kernel)) (List.mem_of_getElem? (i := 56) (by decide +kernel)) (zd_dr dc_De_demandRegisters3 4 rfl))) ?_
  refine zx_ac (ok_xvret (ok_vret (l := l) (B := B) (y := m_De_demandRegisters3) (pc := 9) rfl (zd_dr dc_De_demandRegisters3 5 rfl))) ?_
  exact zx_an
def dl_De_demandMode : List (Nat × Instr × Nat) := [(0, .iload_n 0, 1), (1, .ifCond .lt (9), 3), (4, .iload_n 0, 1), (5, .bipush (8), 2), (7, .if_icmp .lt (14), 3), (10, .new 188, 3), (13, .dup, 1), (14, .ldc_w 256, 3), (17, .invokespecial 192, 3), (20, .athrow, 1), (21, .return_, 1)]
theorem dc_De_demandMode : ∀ q ∈ dl_De_demandMode, decode (zd_yb m_De_demandMode) q.1 = .ok q.2 := by decide +kernel
def cx_De_demandMode (l : Launch) (B : zd_B) : List (Nat × zx_S) := [(0, xm_p (oc_iload 0 1)), (1, xm_p (oc_if_lt 10 4)), (4, xm_p (oc_iload 0 5)), (5, xm_p (oc_ci (8) 7)), (7, xm_p (oc_icmp_lt 21 10)), (10, xm_throw 9), (21, xm_vret)]
set_option maxRecDepth 20000 in
theorem okx_De_demandMode {l : Launch} {B : zd_B} (hG : zd_G B) (hl : l.stackTraces = false) : ∀ q ∈ cx_De_demandMode l B, zx_ok l B m_De_demandMode q.1 q.2 := by
  unfold cx_De_demandMode
  refine zx_ac (xm_pk nt_iload (ok_iload_n (l := l) (B := B) (y := m_De_demandMode) (pc := 0) (k := 0) rfl (zd_dr dc_De_demandMode 0 rfl))) ?_
  refine zx_ac (xm_pk nt_if_lt (ok_if_lt (l := l) (B := B) (y := m_De_demandMode) (pc := 1) (zd_dr dc_De_demandMode 1 rfl) (by decide))) ?_
  refine zx_ac (xm_pk nt_iload (ok_iload_n (l := l) (B := B) (y := m_De_demandMode) (pc := 4) (k := 0) rfl (zd_dr dc_De_demandMode 2 rfl))) ?_
  refine zx_ac (xm_pk nt_ci (ok_bipush (l := l) (B := B) (y := m_De_demandMode) (pc := 5) (n := (8)) (zd_dr dc_De_demandMode 3 rfl) rfl)) ?_
  refine zx_ac (xm_pk nt_icmp_lt (ok_icmp_lt (l := l) (B := B) (y := m_De_demandMode) (pc := 7) (zd_dr dc_De_demandMode 4 rfl) (by decide))) ?_
  refine zx_ac (ok_xthrow (ok_throwW (l := l) (B := B) (y := m_De_demandMode) (pc := 10) hG hl zE9 zx_De_188_256_192 rfl (by decide) (by decide) (zd_dr dc_De_demandMode 5 rfl) (zd_dr dc_De_demandMode 6 rfl) (zd_dr dc_De_demandMode 7 rfl) (zd_dr dc_De_demandMode 8 rfl) (zd_dr dc_De_demandMode 9 rfl))) ?_
  refine zx_ac (ok_xvret (ok_vret (l := l) (B := B) (y := m_De_demandMode) (pc := 21) rfl (zd_dr dc_De_demandMode 10 rfl))) ?_
  exact zx_an
def dl_De_demandPrecision : List (Nat × Instr × Nat) := [(0, .iload_n 0, 1), (1, .iload_n 1, 1), (2, .if_icmp .lt (10), 3), (5, .iload_n 0, 1), (6, .sipush (1000), 3), (9, .if_icmp .le (14), 3), (12, .new 188, 3), (15, .dup, 1), (16, .ldc_w 258, 3), (19, .invokespecial 192, 3), (22, .athrow, 1), (23, .return_, 1)]
theorem dc_De_demandPrecision : ∀ q ∈ dl_De_demandPrecision, decode (zd_yb m_De_demandPrecision) q.1 = .ok q.2 := by decide +kernel
def cx_De_demandPrecision (l : Launch) (B : zd_B) : List (Nat × zx_S) := [(0, xm_p (oc_iload 0 1)), (1, xm_p (oc_iload 1 2)), (2, xm_p (oc_icmp_lt 12 5)), (5, xm_p (oc_iload 0 6)), (6, xm_p (oc_ci (1000) 9)), (9, xm_p (oc_icmp_le 23 12)), (12, xm_throw 9), (23, xm_vret)]
set_option maxRecDepth 20000 in
theorem okx_De_demandPrecision {l : Launch} {B : zd_B} (hG : zd_G B) (hl : l.stackTraces = false) : ∀ q ∈ cx_De_demandPrecision l B, zx_ok l B m_De_demandPrecision q.1 q.2 := by
  unfold cx_De_demandPrecision
  refine zx_ac (xm_pk nt_iload (ok_iload_n (l := l) (B := B) (y := m_De_demandPrecision) (pc := 0) (k := 0) rfl (zd_dr dc_De_demandPrecision 0 rfl))) ?_
  refine zx_ac (xm_pk nt_iload (ok_iload_n (l := l) (B := B) (y := m_De_demandPrecision) (pc := 1) (k := 1) rfl (zd_dr dc_De_demandPrecision 1 rfl))) ?_
  refine zx_ac (xm_pk nt_icmp_lt (ok_icmp_lt (l := l) (B := B) (y := m_De_demandPrecision) (pc := 2) (zd_dr dc_De_demandPrecision 2 rfl) (by decide))) ?_
  refine zx_ac (xm_pk nt_iload (ok_iload_n (l := l) (B := B) (y := m_De_demandPrecision) (pc := 5) (k := 0) rfl (zd_dr dc_De_demandPrecision 3 rfl))) ?_
  refine zx_ac (xm_pk nt_ci (ok_sipush (l := l) (B := B) (y := m_De_demandPrecision) (pc := 6) (n := (1000)) (zd_dr dc_De_demandPrecision 4 rfl) rfl)) ?_
  refine zx_ac (xm_pk nt_icmp_le (ok_icmp_le (l := l) (B := B) (y := m_De_demandPrecision) (pc := 9) (zd_dr dc_De_demandPrecision 5 rfl) (by decide))) ?_
  refine zx_ac (ok_xthrow (ok_throwW (l := l) (B := B) (y := m_De_demandPrecision) (pc := 12) hG hl zE9 zx_De_188_258_192 rfl (by decide) (by decide) (zd_dr dc_De_demandPrecision 6 rfl) (zd_dr dc_De_demandPrecision 7 rfl) (zd_dr dc_De_demandPrecision 8 rfl) (zd_dr dc_De_demandPrecision 9 rfl) (zd_dr dc_De_demandPrecision 10 rfl))) ?_
  refine zx_ac (ok_xvret (ok_vret (l := l) (B := B) (y := m_De_demandPrecision) (pc := 23) rfl (zd_dr dc_De_demandPrecision 11 rfl))) ?_
  exact zx_an
def dl_De_isScale : List (Nat × Instr × Nat) := [(0, .lload_n 0, 1), (1, .ldc2_w 260, 3), (4, .lcmp, 1), (5, .ifCond .lt (15), 3), (8, .lload_n 0, 1), (9, .ldc2_w 262, 3), (12, .lcmp, 1), (13, .ifCond .gt (7), 3), (16, .iconst (1), 1), (17, .goto (4), 3), (20, .iconst (0), 1), (21, .ireturn, 1)]
theorem dc_De_isScale : ∀ q ∈ dl_De_isScale, decode (zd_yb m_De_isScale) q.1 = .ok q.2 := by decide +kernel
def cx_De_isScale (l : Launch) (B : zd_B) : List (Nat × zx_S) := [(0, xm_p (oc_lload 0 1)), (1, xm_p (oc_cl (-10000) 4)), (4, xm_p (oc_lcmp 5)), (5, xm_p (oc_if_lt 20 8)), (8, xm_p (oc_lload 0 9)), (9, xm_p (oc_cl (10000) 12)), (12, xm_p (oc_lcmp 13)), (13, xm_p (oc_if_gt 20 16)), (16, xm_p (oc_ci (1) 17)), (17, xm_p (oc_goto 21)), (20, xm_p (oc_ci (0) 21)), (21, xm_zret)]
set_option maxRecDepth 20000 in
theorem okx_De_isScale {l : Launch} {B : zd_B} (hG : zd_G B) (hl : l.stackTraces = false) : ∀ q ∈ cx_De_isScale l B, zx_ok l B m_De_isScale q.1 q.2 := by
  unfold cx_De_isScale
  refine zx_ac (xm_pk nt_lload (ok_lload_n (l := l) (B := B) (y := m_De_isScale) (pc := 0) (k := 0) rfl (zd_dr dc_De_isScale 0 rfl))) ?_
  refine zx_ac (xm_pk nt_cl (ok_ldc2 (l := l) (B := B) (y := m_De_isScale) (pc := 1) hG (List.mem_of_getElem? (i := 415) (by decide +kernel)) (zd_dr dc_De_isScale 1 rfl))) ?_
  refine zx_ac (xm_pk nt_lcmp (ok_lcmp (l := l) (B := B) (y := m_De_isScale) (pc := 4) (zd_dr dc_De_isScale 2 rfl))) ?_
  refine zx_ac (xm_pk nt_if_lt (ok_if_lt (l := l) (B := B) (y := m_De_isScale) (pc := 5) (zd_dr dc_De_isScale 3 rfl) (by decide))) ?_
  refine zx_ac (xm_pk nt_lload (ok_lload_n (l := l) (B := B) (y := m_De_isScale) (pc := 8) (k := 0) rfl (zd_dr dc_De_isScale 4 rfl))) ?_
  refine zx_ac (xm_pk nt_cl (ok_ldc2 (l := l) (B := B) (y := m_De_isScale) (pc := 9) hG (List.mem_of_getElem? (i := 416) (by decide +kernel)) (zd_dr dc_De_isScale 5 rfl))) ?_
  refine zx_ac (xm_pk nt_lcmp (ok_lcmp (l := l) (B := B) (y := m_De_isScale) (pc := 12) (zd_dr dc_De_isScale 6 rfl))) ?_
  refine zx_ac (xm_pk nt_if_gt (ok_if_gt (l := l) (B := B) (y := m_De_isScale) (pc := 13) (zd_dr dc_De_isScale 7 rfl) (by decide))) ?_
  refine zx_ac (xm_pk nt_ci (ok_iconst (l := l) (B := B) (y := m_De_isScale) (pc := 16) (n := (1)) (zd_dr dc_De_isScale 8 rfl) rfl)) ?_
  refine zx_ac (xm_pk nt_goto (ok_goto (l := l) (B := B) (y := m_De_isScale) (pc := 17) (zd_dr dc_De_isScale 9 rfl) (by decide))) ?_
  refine zx_ac (xm_pk nt_ci (ok_iconst (l := l) (B := B) (y := m_De_isScale) (pc := 20) (n := (0)) (zd_dr dc_De_isScale 10 rfl) rfl)) ?_
  refine zx_ac (ok_xzret (ok_iret (l := l) (B := B) (y := m_De_isScale) (pc := 21) rfl (zd_dr dc_De_isScale 11 rfl))) ?_
  exact zx_an
def dl_De_demandWantedScale : List (Nat × Instr × Nat) := [(0, .iload_n 0, 1), (1, .i2l, 1), (2, .invokestatic 264, 3), (5, .ifCond .ne (14), 3), (8, .new 188, 3), (11, .dup, 1), (12, .ldc_w 268, 3), (15, .invokespecial 192, 3), (18, .athrow, 1), (19, .return_, 1)]
theorem dc_De_demandWantedScale : ∀ q ∈ dl_De_demandWantedScale, decode (zd_yb m_De_demandWantedScale) q.1 = .ok q.2 := by decide +kernel
def cx_De_demandWantedScale (l : Launch) (B : zd_B) : List (Nat × zx_S) := [(0, xm_p (oc_iload 0 1)), (1, xm_p (oc_i2l 2)), (2, xm_calls l B m_De_isScale 1 5), (5, xm_p (oc_if_ne 19 8)), (8, xm_throw 9), (19, xm_vret)]
set_option maxRecDepth 20000 in
theorem okx_De_demandWantedScale {l : Launch} {B : zd_B} (hG : zd_G B) (hl : l.stackTraces = false) : ∀ q ∈ cx_De_demandWantedScale l B, zx_ok l B m_De_demandWantedScale q.1 q.2 := by
  unfold cx_De_demandWantedScale
  refine zx_ac (xm_pk nt_iload (ok_iload_n (l := l) (B := B) (y := m_De_demandWantedScale) (pc := 0) (k := 0) rfl (zd_dr dc_De_demandWantedScale 0 rfl))) ?_
  refine zx_ac (xm_pk nt_i2l (ok_i2l (l := l) (B := B) (y := m_De_demandWantedScale) (pc := 1) (zd_dr dc_De_demandWantedScale 1 rfl))) ?_
  refine zx_ac (ok_xcalls (ok_calls (l := l) (B := B) (y := m_De_demandWantedScale) (pc := 2) hG cf_De_demandWantedScale_De_isScale rfl (List.mem_of_getElem? (i := 412) (by decide +kernel)) (List.mem_of_getElem? (i := 413) (by decide +kernel)) (List.mem_of_getElem? (i := 56) (by decide +kernel)) (zd_dr dc_De_demandWantedScale 2 rfl))) ?_
  refine zx_ac (xm_pk nt_if_ne (ok_if_ne (l := l) (B := B) (y := m_De_demandWantedScale) (pc := 5) (zd_dr dc_De_demandWantedScale 3 rfl) (by decide))) ?_
  refine zx_ac (ok_xthrow (ok_throwW (l := l) (B := B) (y := m_De_demandWantedScale) (pc := 8) hG hl zE9 zx_De_188_268_192 rfl (by decide) (by decide) (zd_dr dc_De_demandWantedScale 4 rfl) (zd_dr dc_De_demandWantedScale 5 rfl) (zd_dr dc_De_demandWantedScale 6 rfl) (zd_dr dc_De_demandWantedScale 7 rfl) (zd_dr dc_De_demandWantedScale 8 rfl))) ?_
  refine zx_ac (ok_xvret (ok_vret (l := l) (B := B) (y := m_De_demandWantedScale) (pc := 19) rfl (zd_dr dc_De_demandWantedScale 9 rfl))) ?_
  exact zx_an
def dl_De_demandScale : List (Nat × Instr × Nat) := [(0, .lload_n 0, 1), (1, .invokestatic 264, 3), (4, .ifCond .ne (14), 3), (7, .new 196, 3), (10, .dup, 1), (11, .ldc_w 270, 3), (14, .invokespecial 200, 3), (17, .athrow, 1), (18, .return_, 1)]
theorem dc_De_demandScale : ∀ q ∈ dl_De_demandScale, decode (zd_yb m_De_demandScale) q.1 = .ok q.2 := by decide +kernel
def cx_De_demandScale (l : Launch) (B : zd_B) : List (Nat × zx_S) := [(0, xm_p (oc_lload 0 1)), (1, xm_calls l B m_De_isScale 1 4), (4, xm_p (oc_if_ne 18 7)), (7, xm_throw 11), (18, xm_vret)]
set_option maxRecDepth 20000 in
theorem okx_De_demandScale {l : Launch} {B : zd_B} (hG : zd_G B) (hl : l.stackTraces = false) : ∀ q ∈ cx_De_demandScale l B, zx_ok l B m_De_demandScale q.1 q.2 := by
  unfold cx_De_demandScale
  refine zx_ac (xm_pk nt_lload (ok_lload_n (l := l) (B := B) (y := m_De_demandScale) (pc := 0) (k := 0) rfl (zd_dr dc_De_demandScale 0 rfl))) ?_
  refine zx_ac (ok_xcalls (ok_calls (l := l) (B := B) (y := m_De_demandScale) (pc := 1) hG cf_De_demandScale_De_isScale rfl (List.mem_of_getElem? (i := 412) (by decide +kernel)) (List.mem_of_getElem? (i := 413) (by decide +kernel)) (List.mem_of_getElem? (i := 56) (by decide +kernel)) (zd_dr dc_De_demandScale 1 rfl))) ?_
  refine zx_ac (xm_pk nt_if_ne (ok_if_ne (l := l) (B := B) (y := m_De_demandScale) (pc := 4) (zd_dr dc_De_demandScale 2 rfl) (by decide))) ?_
  refine zx_ac (ok_xthrow (ok_throwW (l := l) (B := B) (y := m_De_demandScale) (pc := 7) hG hl zE11 zx_De_196_270_200 rfl (by decide) (by decide) (zd_dr dc_De_demandScale 3 rfl) (zd_dr dc_De_demandScale 4 rfl) (zd_dr dc_De_demandScale 5 rfl) (zd_dr dc_De_demandScale 6 rfl) (zd_dr dc_De_demandScale 7 rfl))) ?_
  refine zx_ac (ok_xvret (ok_vret (l := l) (B := B) (y := m_De_demandScale) (pc := 18) rfl (zd_dr dc_De_demandScale 8 rfl))) ?_
  exact zx_an
def dl_De_demandDigits : List (Nat × Instr × Nat) := [(0, .aload_n 0, 1), (1, .invokevirtual 164, 3), (4, .sipush (1000), 3), (7, .if_icmp .le (14), 3), (10, .new 196, 3), (13, .dup, 1), (14, .ldc_w 272, 3), (17, .invokespecial 200, 3), (20, .athrow, 1), (21, .return_, 1)]
theorem dc_De_demandDigits : ∀ q ∈ dl_De_demandDigits, decode (zd_yb m_De_demandDigits) q.1 = .ok q.2 := by decide +kernel
def cx_De_demandDigits (l : Launch) (B : zd_B) : List (Nat × zx_S) := [(0, xm_p (oc_aload 0 1)), (1, xm_callv l B 4 m_Na_digits 0 4), (4, xm_p (oc_ci (1000) 7)), (7, xm_p (oc_icmp_le 21 10)), (10, xm_throw 11), (21, xm_vret)]
set_option maxRecDepth 20000 in
theorem okx_De_demandDigits {l : Launch} {B : zd_B} (hG : zd_G B) (hl : l.stackTraces = false) : ∀ q ∈ cx_De_demandDigits l B, zx_ok l B m_De_demandDigits q.1 q.2 := by
  unfold cx_De_demandDigits
  refine zx_ac (xm_pk nt_aload (ok_aload_n (l := l) (B := B) (y := m_De_demandDigits) (pc := 0) (k := 0) rfl (zd_dr dc_De_demandDigits 0 rfl))) ?_
  refine zx_ac (ok_xcallv (ok_callv (l := l) (B := B) (y := m_De_demandDigits) (pc := 1) hG (ci := 4) rfl cf_De_demandDigits_Na_digits rfl (List.mem_of_getElem? (i := 473) (by decide +kernel)) (List.mem_of_getElem? (i := 474) (by decide +kernel)) (List.mem_of_getElem? (i := 475) (by decide +kernel)) (zd_dr dc_De_demandDigits 1 rfl))) ?_
  refine zx_ac (xm_pk nt_ci (ok_sipush (l := l) (B := B) (y := m_De_demandDigits) (pc := 4) (n := (1000)) (zd_dr dc_De_demandDigits 2 rfl) rfl)) ?_
  refine zx_ac (xm_pk nt_icmp_le (ok_icmp_le (l := l) (B := B) (y := m_De_demandDigits) (pc := 7) (zd_dr dc_De_demandDigits 3 rfl) (by decide))) ?_
  refine zx_ac (ok_xthrow (ok_throwW (l := l) (B := B) (y := m_De_demandDigits) (pc := 10) hG hl zE11 zx_De_196_272_200 rfl (by decide) (by decide) (zd_dr dc_De_demandDigits 4 rfl) (zd_dr dc_De_demandDigits 5 rfl) (zd_dr dc_De_demandDigits 6 rfl) (zd_dr dc_De_demandDigits 7 rfl) (zd_dr dc_De_demandDigits 8 rfl))) ?_
  refine zx_ac (ok_xvret (ok_vret (l := l) (B := B) (y := m_De_demandDigits) (pc := 21) rfl (zd_dr dc_De_demandDigits 9 rfl))) ?_
  exact zx_an
def dl_De_demandDivisor : List (Nat × Instr × Nat) := [(0, .aload_n 0, 1), (1, .getfield 131, 3), (4, .invokevirtual 201, 3), (7, .ifCond .eq (14), 3), (10, .new 196, 3), (13, .dup, 1), (14, .ldc_w 274, 3), (17, .invokespecial 200, 3), (20, .athrow, 1), (21, .return_, 1)]
theorem dc_De_demandDivisor : ∀ q ∈ dl_De_demandDivisor, decode (zd_yb m_De_demandDivisor) q.1 = .ok q.2 := by decide +kernel
def cx_De_demandDivisor (l : Launch) (B : zd_B) : List (Nat × zx_S) := [(0, xm_p (oc_aload 0 1)), (1, xm_getc 0 4), (4, xm_callv l B 4 m_Na_isZero 0 7), (7, xm_p (oc_if_eq 21 10)), (10, xm_throw 11), (21, xm_vret)]
set_option maxRecDepth 20000 in
theorem okx_De_demandDivisor {l : Launch} {B : zd_B} (hG : zd_G B) (hl : l.stackTraces = false) : ∀ q ∈ cx_De_demandDivisor l B, zx_ok l B m_De_demandDivisor q.1 q.2 := by
  unfold cx_De_demandDivisor
  refine zx_ac (xm_pk nt_aload (ok_aload_n (l := l) (B := B) (y := m_De_demandDivisor) (pc := 0) (k := 0) rfl (zd_dr dc_De_demandDivisor 0 rfl))) ?_
  refine zx_ac (ok_xgetc (ok_getf (l := l) (B := B) (y := m_De_demandDivisor) (pc := 1) hG (C := zR1) (T := zT1) (N := 3) (ci := 1) (k := 0) rfl zl1 (by decide) (List.mem_of_getElem? (i := 110) (by decide +kernel)) (zd_dr dc_De_demandDivisor 1 rfl))) ?_
  refine zx_ac (ok_xcallv (ok_callv (l := l) (B := B) (y := m_De_demandDivisor) (pc := 4) hG (ci := 4) rfl cf_De_demandDivisor_Na_isZero rfl (List.mem_of_getElem? (i := 601) (by decide +kernel)) (List.mem_of_getElem? (i := 490) (by decide +kernel)) (List.mem_of_getElem? (i := 491) (by decide +kernel)) (zd_dr dc_De_demandDivisor 2 rfl))) ?_
  refine zx_ac (xm_pk nt_if_eq (ok_if_eq (l := l) (B := B) (y := m_De_demandDivisor) (pc := 7) (zd_dr dc_De_demandDivisor 3 rfl) (by decide))) ?_
  refine zx_ac (ok_xthrow (ok_throwW (l := l) (B := B) (y := m_De_demandDivisor) (pc := 10) hG hl zE11 zx_De_196_274_200 rfl (by decide) (by decide) (zd_dr dc_De_demandDivisor 4 rfl) (zd_dr dc_De_demandDivisor 5 rfl) (zd_dr dc_De_demandDivisor 6 rfl) (zd_dr dc_De_demandDivisor 7 rfl) (zd_dr dc_De_demandDivisor 8 rfl))) ?_
  refine zx_ac (ok_xvret (ok_vret (l := l) (B := B) (y := m_De_demandDivisor) (pc := 21) rfl (zd_dr dc_De_demandDivisor 9 rfl))) ?_
  exact zx_an
def dl_De_keep : List (Nat × Instr × Nat) := [(0, .aload_n 0, 1), (1, .getfield 49, 3), (4, .getfield 174, 3), (7, .i2l, 1), (8, .invokestatic 91, 3), (11, .aload_n 0, 1), (12, .getfield 49, 3), (15, .getfield 95, 3), (18, .invokestatic 276, 3), (21, .aload_n 0, 1), (22, .getfield 11, 3), (25, .iload_n 1, 1), (26, .aaload, 1), (27, .aload_n 0, 1), (28, .getfield 49, 3), (31, .invokevirtual 279, 3), (34, .return_, 1)]
theorem dc_De_keep : ∀ q ∈ dl_De_keep, decode (zd_yb m_De_keep) q.1 = .ok q.2 := by decide +kernel
def cx_De_keep (l : Launch) (B : zd_B) : List (Nat × zx_S) := [(0, xm_p (oc_aload 0 1)), (1, xm_getd 5 4), (4, xm_getr 2 7), (7, xm_p (oc_i2l 8)), (8, xm_calls l B m_De_demandScale 1 11), (11, xm_p (oc_aload 0 12)), (12, xm_getd 5 15), (15, xm_getr 0 18), (18, xm_calls l B m_De_demandDigits 1 21), (21, xm_p (oc_aload 0 22)), (22, xm_getd 0 25), (25, xm_p (oc_iload 1 26)), (26, xm_aald 27), (27, xm_p (oc_aload 0 28)), (28, xm_getd 5 31), (31, xm_callv l B 1 m_Dc_accept 1 34), (34, xm_vret)]
set_option maxRecDepth 20000 in
theorem okx_De_keep {l : Launch} {B : zd_B} (hG : zd_G B) (hl : l.stackTraces = false) : ∀ q ∈ cx_De_keep l B, zx_ok l B m_De_keep q.1 q.2 := by
  unfold cx_De_keep
  refine zx_ac (xm_pk nt_aload (ok_aload_n (l := l) (B := B) (y := m_De_keep) (pc := 0) (k := 0) rfl (zd_dr dc_De_keep 0 rfl))) ?_
  refine zx_ac (ok_xgetd (ok_getf (l := l) (B := B) (y := m_De_keep) (pc := 1) hG (C := zR0) (T := zT0) (N := 8) (ci := 0) (k := 5) rfl zl0 (by decide) (List.mem_of_getElem? (i := 239) (by decide +kernel)) (zd_dr dc_De_keep 1 rfl))) ?_
  refine zx_ac (ok_xgetr (ok_getf (l := l) (B := B) (y := m_De_keep) (pc := 4) hG (C := zR6) (T := zT6) (N := 4) (ci := 6) (k := 2) rfl zl6 (by decide) (List.mem_of_getElem? (i := 220) (by decide +kernel)) (zd_dr dc_De_keep 2 rfl))) ?_
  refine zx_ac (xm_pk nt_i2l (ok_i2l (l := l) (B := B) (y := m_De_keep) (pc := 7) (zd_dr dc_De_keep 3 rfl))) ?_
  refine zx_ac (ok_xcalls (ok_calls (l := l) (B := B) (y := m_De_keep) (pc := 8) hG cf_De_keep_De_demandScale rfl (List.mem_of_getElem? (i := 409) (by decide +kernel)) (List.mem_of_getElem? (i := 410) (by decide +kernel)) (List.mem_of_getElem? (i := 56) (by decide +kernel)) (zd_dr dc_De_keep 4 rfl))) ?_
  refine zx_ac (xm_pk nt_aload (ok_aload_n (l := l) (B := B) (y := m_De_keep) (pc := 11) (k := 0) rfl (zd_dr dc_De_keep 5 rfl))) ?_
  refine zx_ac (ok_xgetd (ok_getf (l := l) (B := B) (y := m_De_keep) (pc := 12) hG (C := zR0) (T := zT0) (N := 8) (ci := 0) (k := 5) rfl zl0 (by decide) (List.mem_of_getElem? (i := 239) (by decide +kernel)) (zd_dr dc_De_keep 6 rfl))) ?_
  refine zx_ac (ok_xgetr (ok_getf (l := l) (B := B) (y := m_De_keep) (pc := 15) hG (C := zR6) (T := zT6) (N := 4) (ci := 6) (k := 0) rfl zl6 (by decide) (List.mem_of_getElem? (i := 214) (by decide +kernel)) (zd_dr dc_De_keep 7 rfl))) ?_
  refine zx_ac (ok_xcalls (ok_calls (l := l) (B := B) (y := m_De_keep) (pc := 18) hG cf_De_keep_De_demandDigits rfl (List.mem_of_getElem? (i := 470) (by decide +kernel)) (List.mem_of_getElem? (i := 471) (by decide +kernel)) (List.mem_of_getElem? (i := 56) (by decide +kernel)) (zd_dr dc_De_keep 8 rfl))) ?_
  refine zx_ac (xm_pk nt_aload (ok_aload_n (l := l) (B := B) (y := m_De_keep) (pc := 21) (k := 0) rfl (zd_dr dc_De_keep 9 rfl))) ?_
  refine zx_ac (ok_xgetd (ok_getf (l := l) (B := B) (y := m_De_keep) (pc := 22) hG (C := zR0) (T := zT0) (N := 8) (ci := 0) (k := 0) rfl zl0 (by decide) (List.mem_of_getElem? (i := 234) (by decide +kernel)) (zd_dr dc_De_keep 10 rfl))) ?_
  refine zx_ac (xm_pk nt_iload (ok_iload_n (l := l) (B := B) (y := m_De_keep) (pc := 25) (k := 1) rfl (zd_dr dc_De_keep 11 rfl))) ?_
  refine zx_ac (ok_xaald (ok_aaload (l := l) (B := B) (y := m_De_keep) (pc := 26) hG (zd_dr dc_De_keep 12 rfl))) ?_
  refine zx_ac (xm_pk nt_aload (ok_aload_n (l := l) (B := B) (y := m_De_keep) (pc := 27) (k := 0) rfl (zd_dr dc_De_keep 13 rfl))) ?_
  refine zx_ac (ok_xgetd (ok_getf (l := l) (B := B) (y := m_De_keep) (pc := 28) hG (C := zR0) (T := zT0) (N := 8) (ci := 0) (k := 5) rfl zl0 (by decide) (List.mem_of_getElem? (i := 239) (by decide +kernel)) (zd_dr dc_De_keep 14 rfl))) ?_
  refine zx_ac (ok_xcallv (ok_callv (l := l) (B := B) (y := m_De_keep) (pc := 31) hG (ci := 1) rfl cf_De_keep_Dc_accept rfl (List.mem_of_getElem? (i := 478) (by decide +kernel)) (List.mem_of_getElem? (i := 479) (by decide +kernel)) (List.mem_of_getElem? (i := 480) (by decide +kernel)) (zd_dr dc_De_keep 15 rfl))) ?_
  refine zx_ac (ok_xvret (ok_vret (l := l) (B := B) (y := m_De_keep) (pc := 34) rfl (zd_dr dc_De_keep 16 rfl))) ?_
  exact zx_an
def dl_De_align : List (Nat × Instr × Nat) := [(0, .aload_n 1, 1), (1, .getfield 136, 3), (4, .aload_n 2, 1), (5, .getfield 136, 3), (8, .invokestatic 283, 3), (11, .istore_n 3, 1), (12, .aload_n 0, 1), (13, .getfield 49, 3), (16, .aload_n 1, 1), (17, .invokevirtual 150, 3), (20, .aload_n 0, 1), (21, .getfield 49, 3), (24, .iload_n 3, 1), (25, .invokevirtual 210, 3), (28, .aload_n 0, 1), (29, .getfield 58, 3), (32, .aload_n 2, 1), (33, .getfield 131, 3), (36, .invokevirtual 175, 3), (39, .aload_n 0, 1), (40, .getfield 58, 3), (43, .iload_n 3, 1), (44, .aload_n 2, 1), (45, .getfield 136, 3), (48, .isub, 1), (49, .invokevirtual 178, 3), (52, .pop, 1), (53, .return_, 1)]
theorem dc_De_align : ∀ q ∈ dl_De_align, decode (zd_yb m_De_align) q.1 = .ok q.2 := by decide +kernel
def cx_De_align (l : Launch) (B : zd_B) : List (Nat × zx_S) := [(0, xm_p (oc_aload 1 1)), (1, xm_getc 2 4), (4, xm_p (oc_aload 2 5)), (5, xm_getc 2 8), (8, xm_calls l B m_Ma_max 2 11), (11, xm_p (oc_istore 3 12)), (12, xm_p (oc_aload 0 13)), (13, xm_getd 5 16), (16, xm_p (oc_aload 1 17)), (17, xm_callv l B 6 m_Ru_take 1 20), (20, xm_p (oc_aload 0 21)), (21, xm_getd 5 24), (24, xm_p (oc_iload 3 25)), (25, xm_callv l B 6 m_Ru_cutTo 1 28), (28, xm_p (oc_aload 0 29)), (29, xm_getd 6 32), (32, xm_p (oc_aload 2 33)), (33, xm_getc 0 36), (36, xm_callv l B 4 m_Na_copy 1 39), (39, xm_p (oc_aload 0 40)), (40, xm_getd 6 43), (43, xm_p (oc_iload 3 44)), (44, xm_p (oc_aload 2 45)), (45, xm_getc 2 48), (48, xm_p (oc_isub 49)), (49, xm_callv l B 4 m_Na_move 1 52), (52, xm_p (oc_pop 53)), (53, xm_vret)]
set_option maxRecDepth 20000 in
theorem okx_De_align {l : Launch} {B : zd_B} (hG : zd_G B) (hl : l.stackTraces = false) : ∀ q ∈ cx_De_align l B, zx_ok l B m_De_align q.1 q.2 := by
  unfold cx_De_align
  refine zx_ac (xm_pk nt_aload (ok_aload_n (l := l) (B := B) (y := m_De_align) (pc := 0) (k := 1) rfl (zd_dr dc_De_align 0 rfl))) ?_
  refine zx_ac (ok_xgetc (ok_getf (l := l) (B := B) (y := m_De_align) (pc := 1) hG (C := zR1) (T := zT1) (N := 3) (ci := 1) (k := 2) rfl zl1 (by decide) (List.mem_of_getElem? (i := 118) (by decide +kernel)) (zd_dr dc_De_align 1 rfl))) ?_
  refine zx_ac (xm_pk nt_aload (ok_aload_n (l := l) (B := B) (y := m_De_align) (pc := 4) (k := 2) rfl (zd_dr dc_De_align 2 rfl))) ?_
  refine zx_ac (ok_xgetc (ok_getf (l := l) (B := B) (y := m_De_align) (pc := 5) hG (C := zR1) (T := zT1) (N := 3) (ci := 1) (k := 2) rfl zl1 (by decide) (List.mem_of_getElem? (i := 118) (by decide +kernel)) (zd_dr dc_De_align 3 rfl))) ?_
  refine zx_ac (ok_xcalls (ok_calls (l := l) (B := B) (y := m_De_align) (pc := 8) hG cf_De_align_Ma_max rfl (List.mem_of_getElem? (i := 523) (by decide +kernel)) (List.mem_of_getElem? (i := 524) (by decide +kernel)) (List.mem_of_getElem? (i := 72) (by decide +kernel)) (zd_dr dc_De_align 4 rfl))) ?_
  refine zx_ac (xm_pk nt_istore (ok_istore_n (l := l) (B := B) (y := m_De_align) (pc := 11) (k := 3) rfl (zd_dr dc_De_align 5 rfl) (by decide))) ?_
  refine zx_ac (xm_pk nt_aload (ok_aload_n (l := l) (B := B) (y := m_De_align) (pc := 12) (k := 0) rfl (zd_dr dc_De_align 6 rfl))) ?_
  refine zx_ac (ok_xgetd (ok_getf (l := l) (B := B) (y := m_De_align) (pc := 13) hG (C := zR0) (T := zT0) (N := 8) (ci := 0) (k := 5) rfl zl0 (by decide) (List.mem_of_getElem? (i := 239) (by decide +kernel)) (zd_dr dc_De_align 7 rfl))) ?_
  refine zx_ac (xm_pk nt_aload (ok_aload_n (l := l) (B := B) (y := m_De_align) (pc := 16) (k := 1) rfl (zd_dr dc_De_align 8 rfl))) ?_
  refine zx_ac (ok_xcallv (ok_callv (l := l) (B := B) (y := m_De_align) (pc := 17) hG (ci := 6) rfl cf_De_align_Ru_take rfl (List.mem_of_getElem? (i := 526) (by decide +kernel)) (List.mem_of_getElem? (i := 527) (by decide +kernel)) (List.mem_of_getElem? (i := 528) (by decide +kernel)) (zd_dr dc_De_align 9 rfl))) ?_
  refine zx_ac (xm_pk nt_aload (ok_aload_n (l := l) (B := B) (y := m_De_align) (pc := 20) (k := 0) rfl (zd_dr dc_De_align 10 rfl))) ?_
  refine zx_ac (ok_xgetd (ok_getf (l := l) (B := B) (y := m_De_align) (pc := 21) hG (C := zR0) (T := zT0) (N := 8) (ci := 0) (k := 5) rfl zl0 (by decide) (List.mem_of_getElem? (i := 239) (by decide +kernel)) (zd_dr dc_De_align 11 rfl))) ?_
  refine zx_ac (xm_pk nt_iload (ok_iload_n (l := l) (B := B) (y := m_De_align) (pc := 24) (k := 3) rfl (zd_dr dc_De_align 12 rfl))) ?_
  refine zx_ac (ok_xcallv (ok_callv (l := l) (B := B) (y := m_De_align) (pc := 25) hG (ci := 6) rfl cf_De_align_Ru_cutTo rfl (List.mem_of_getElem? (i := 532) (by decide +kernel)) (List.mem_of_getElem? (i := 533) (by decide +kernel)) (List.mem_of_getElem? (i := 534) (by decide +kernel)) (zd_dr dc_De_align 13 rfl))) ?_
  refine zx_ac (xm_pk nt_aload (ok_aload_n (l := l) (B := B) (y := m_De_align) (pc := 28) (k := 0) rfl (zd_dr dc_De_align 14 rfl))) ?_
  refine zx_ac (ok_xgetd (ok_getf (l := l) (B := B) (y := m_De_align) (pc := 29) hG (C := zR0) (T := zT0) (N := 8) (ci := 0) (k := 6) rfl zl0 (by decide) (List.mem_of_getElem? (i := 240) (by decide +kernel)) (zd_dr dc_De_align 15 rfl))) ?_
  refine zx_ac (xm_pk nt_aload (ok_aload_n (l := l) (B := B) (y := m_De_align) (pc := 32) (k := 2) rfl (zd_dr dc_De_align 16 rfl))) ?_
  refine zx_ac (ok_xgetc (ok_getf (l := l) (B := B) (y := m_De_align) (pc := 33) hG (C := zR1) (T := zT1) (N := 3) (ci := 1) (k := 0) rfl zl1 (by decide) (List.mem_of_getElem? (i := 110) (by decide +kernel)) (zd_dr dc_De_align 17 rfl))) ?_
  refine zx_ac (ok_xcallv (ok_callv (l := l) (B := B) (y := m_De_align) (pc := 36) hG (ci := 4) rfl cf_De_align_Na_copy rfl (List.mem_of_getElem? (i := 550) (by decide +kernel)) (List.mem_of_getElem? (i := 483) (by decide +kernel)) (List.mem_of_getElem? (i := 484) (by decide +kernel)) (zd_dr dc_De_align 18 rfl))) ?_
  refine zx_ac (xm_pk nt_aload (ok_aload_n (l := l) (B := B) (y := m_De_align) (pc := 39) (k := 0) rfl (zd_dr dc_De_align 19 rfl))) ?_
  refine zx_ac (ok_xgetd (ok_getf (l := l) (B := B) (y := m_De_align) (pc := 40) hG (C := zR0) (T := zT0) (N := 8) (ci := 0) (k := 6) rfl zl0 (by decide) (List.mem_of_getElem? (i := 240) (by decide +kernel)) (zd_dr dc_De_align 20 rfl))) ?_
  refine zx_ac (xm_pk nt_iload (ok_iload_n (l := l) (B := B) (y := m_De_align) (pc := 43) (k := 3) rfl (zd_dr dc_De_align 21 rfl))) ?_
  refine zx_ac (xm_pk nt_aload (ok_aload_n (l := l) (B := B) (y := m_De_align) (pc := 44) (k := 2) rfl (zd_dr dc_De_align 22 rfl))) ?_
  refine zx_ac (ok_xgetc (ok_getf (l := l) (B := B) (y := m_De_align) (pc := 45) hG (C := zR1) (T := zT1) (N := 3) (ci := 1) (k := 2) rfl zl1 (by decide) (List.mem_of_getElem? (i := 118) (by decide +kernel)) (zd_dr dc_De_align 23 rfl))) ?_
  refine zx_ac (xm_pk nt_isub (ok_isub (l := l) (B := B) (y := m_De_align) (pc := 48) (zd_dr dc_De_align 24 rfl))) ?_
  refine zx_ac (ok_xcallv (ok_callv (l := l) (B := B) (y := m_De_align) (pc := 49) hG (ci := 4) rfl cf_De_align_Na_move rfl (List.mem_of_getElem? (i := 551) (by decide +kernel)) (List.mem_of_getElem? (i := 537) (by decide +kernel)) (List.mem_of_getElem? (i := 538) (by decide +kernel)) (zd_dr dc_De_align 25 rfl))) ?_
  refine zx_ac (xm_pk nt_pop (ok_pop (l := l) (B := B) (y := m_De_align) (pc := 52) (zd_dr dc_De_align 26 rfl))) ?_
  refine zx_ac (ok_xvret (ok_vret (l := l) (B := B) (y := m_De_align) (pc := 53) rfl (zd_dr dc_De_align 27 rfl))) ?_
  exact zx_an
def dl_De_addSigned : List (Nat × Instr × Nat) := [(0, .aload_n 0, 1), (1, .getfield 49, 3), (4, .getfield 95, 3), (7, .astore_n 2, 1), (8, .aload_n 0, 1), (9, .getfield 49, 3), (12, .getfield 223, 3), (15, .iload_n 1, 1), (16, .if_icmp .ne (14), 3), (19, .aload_n 2, 1), (20, .aload_n 0, 1), (21, .getfield 58, 3), (24, .invokevirtual 286, 3), (27, .goto (49), 3), (30, .aload_n 2, 1), (31, .aload_n 0, 1), (32, .getfield 58, 3), (35, .invokevirtual 289, 3), (38, .ifCond .lt (14), 3), (41, .aload_n 2, 1), (42, .aload_n 0, 1), (43, .getfield 58, 3), (46, .invokevirtual 293, 3), (49, .goto (27), 3), (52, .aload_n 0, 1), (53, .getfield 58, 3), (56, .aload_n 2, 1), (57, .invokevirtual 293, 3), (60, .aload_n 2, 1), (61, .aload_n 0, 1), (62, .getfield 58, 3), (65, .invokevirtual 175, 3), (68, .aload_n 0, 1), (69, .getfield 49, 3), (72, .iload_n 1, 1), (73, .putfield 223, 3), (76, .return_, 1)]
theorem dc_De_addSigned : ∀ q ∈ dl_De_addSigned, decode (zd_yb m_De_addSigned) q.1 = .ok q.2 := by decide +kernel
def cx_De_addSigned (l : Launch) (B : zd_B) : List (Nat × zx_S) := [(0, xm_p (oc_aload 0 1)), (1, xm_getd 5 4), (4, xm_getr 0 7), (7, xm_p (oc_astore 2 8)), (8, xm_p (oc_aload 0 9)), (9, xm_getd 5 12), (12, xm_getr 1 15), (15, xm_p (oc_iload 1 16)), (16, xm_p (oc_icmp_ne 30 19)), (19, xm_p (oc_aload 2 20)), (20, xm_p (oc_aload 0 21)), (21, xm_getd 6 24), (24, xm_callv l B 4 m_Na_raiseBy 1 27), (27, xm_p (oc_goto 76)), (30, xm_p (oc_aload 2 31)), (31, xm_p (oc_aload 0 32)), (32, xm_getd 6 35), (35, xm_callv l B 4 m_Na_order 1 38), (38, xm_p (oc_if_lt 52 41)), (41, xm_p (oc_aload 2 42)), (42, xm_p (oc_aload 0 43)), (43, xm_getd 6 46), (46, xm_callv l B 4 m_Na_lowerBy 1 49), (49, xm_p (oc_goto 76)), (52, xm_p (oc_aload 0 53)), (53, xm_getd 6 56), (56, xm_p (oc_aload 2 57)), (57, xm_callv l B 4 m_Na_lowerBy 1 60), (60, xm_p (oc_aload 2 61)), (61, xm_p (oc_aload 0 62)), (62, xm_getd 6 65), (65, xm_callv l B 4 m_Na_copy 1 68), (68, xm_p (oc_aload 0 69)), (69, xm_getd 5 72), (72, xm_p (oc_iload 1 73)), (73, xm_putn 76), (76, xm_vret)]
set_option maxRecDepth 20000 in
theorem okx_De_addSigned {l : Launch} {B : zd_B} (hG : zd_G B) (hl : l.stackTraces = false) : ∀ q ∈ cx_De_addSigned l B, zx_ok l B m_De_addSigned q.1 q.2 := by
  unfold cx_De_addSigned
  refine zx_ac (xm_pk nt_aload (ok_aload_n (l := l) (B := B) (y := m_De_addSigned) (pc := 0) (k := 0) rfl (zd_dr dc_De_addSigned 0 rfl))) ?_
  refine zx_ac (ok_xgetd (ok_getf (l := l) (B := B) (y := m_De_addSigned) (pc := 1) hG (C := zR0) (T := zT0) (N := 8) (ci := 0) (k := 5) rfl zl0 (by decide) (List.mem_of_getElem? (i := 239) (by decide +kernel)) (zd_dr dc_De_addSigned 1 rfl))) ?_
  refine zx_ac (ok_xgetr (ok_getf (l := l) (B := B) (y := m_De_addSigned) (pc := 4) hG (C := zR6) (T := zT6) (N := 4) (ci := 6) (k := 0) rfl zl6 (by decide) (List.mem_of_getElem? (i := 214) (by decide +kernel)) (zd_dr dc_De_addSigned 2 rfl))) ?_
  refine zx_ac (xm_pk nt_astore (ok_astore_n (l := l) (B := B) (y := m_De_addSigned) (pc := 7) (k := 2) rfl (zd_dr dc_De_addSigned 3 rfl) (by decide))) ?_
  refine zx_ac (xm_pk nt_aload (ok_aload_n (l := l) (B := B) (y := m_De_addSigned) (pc := 8) (k := 0) rfl (zd_dr dc_De_addSigned 4 rfl))) ?_
  refine zx_ac (ok_xgetd (ok_getf (l := l) (B := B) (y := m_De_addSigned) (pc := 9) hG (C := zR0) (T := zT0) (N := 8) (ci := 0) (k := 5) rfl zl0 (by decide) (List.mem_of_getElem? (i := 239) (by decide +kernel)) (zd_dr dc_De_addSigned 5 rfl))) ?_
  refine zx_ac (ok_xgetr (ok_getf (l := l) (B := B) (y := m_De_addSigned) (pc := 12) hG (C := zR6) (T := zT6) (N := 4) (ci := 6) (k := 1) rfl zl6 (by decide) (List.mem_of_getElem? (i := 217) (by decide +kernel)) (zd_dr dc_De_addSigned 6 rfl))) ?_
  refine zx_ac (xm_pk nt_iload (ok_iload_n (l := l) (B := B) (y := m_De_addSigned) (pc := 15) (k := 1) rfl (zd_dr dc_De_addSigned 7 rfl))) ?_
  refine zx_ac (xm_pk nt_icmp_ne (ok_icmp_ne (l := l) (B := B) (y := m_De_addSigned) (pc := 16) (zd_dr dc_De_addSigned 8 rfl) (by decide))) ?_
  refine zx_ac (xm_pk nt_aload (ok_aload_n (l := l) (B := B) (y := m_De_addSigned) (pc := 19) (k := 2) rfl (zd_dr dc_De_addSigned 9 rfl))) ?_
  refine zx_ac (xm_pk nt_aload (ok_aload_n (l := l) (B := B) (y := m_De_addSigned) (pc := 20) (k := 0) rfl (zd_dr dc_De_addSigned 10 rfl))) ?_
  refine zx_ac (ok_xgetd (ok_getf (l := l) (B := B) (y := m_De_addSigned) (pc := 21) hG (C := zR0) (T := zT0) (N := 8) (ci := 0) (k := 6) rfl zl0 (by decide) (List.mem_of_getElem? (i := 240) (by decide +kernel)) (zd_dr dc_De_addSigned 11 rfl))) ?_
  refine zx_ac (ok_xcallv (ok_callv (l := l) (B := B) (y := m_De_addSigned) (pc := 24) hG (ci := 4) rfl cf_De_addSigned_Na_raiseBy rfl (List.mem_of_getElem? (i := 556) (by decide +kernel)) (List.mem_of_getElem? (i := 557) (by decide +kernel)) (List.mem_of_getElem? (i := 558) (by decide +kernel)) (zd_dr dc_De_addSigned 12 rfl))) ?_
  refine zx_ac (xm_pk nt_goto (ok_goto (l := l) (B := B) (y := m_De_addSigned) (pc := 27) (zd_dr dc_De_addSigned 13 rfl) (by decide))) ?_
  refine zx_ac (xm_pk nt_aload (ok_aload_n (l := l) (B := B) (y := m_De_addSigned) (pc := 30) (k := 2) rfl (zd_dr dc_De_addSigned 14 rfl))) ?_
  refine zx_ac (xm_pk nt_aload (ok_aload_n (l := l) (B := B) (y := m_De_addSigned) (pc := 31) (k := 0) rfl (zd_dr dc_De_addSigned 15 rfl))) ?_
  refine zx_ac (ok_xgetd (ok_getf (l := l) (B := B) (y := m_De_addSigned) (pc := 32) hG (C := zR0) (T := zT0) (N := 8) (ci := 0) (k := 6) rfl zl0 (by decide) (List.mem_of_getElem? (i := 240) (by decide +kernel)) (zd_dr dc_De_addSigned 16 rfl))) ?_
  refine zx_ac (ok_xcallv (ok_callv (l := l) (B := B) (y := m_De_addSigned) (pc := 35) hG (ci := 4) rfl cf_De_addSigned_Na_order rfl (List.mem_of_getElem? (i := 561) (by decide +kernel)) (List.mem_of_getElem? (i := 562) (by decide +kernel)) (List.mem_of_getElem? (i := 563) (by decide +kernel)) (zd_dr dc_De_addSigned 17 rfl))) ?_
  refine zx_ac (xm_pk nt_if_lt (ok_if_lt (l := l) (B := B) (y := m_De_addSigned) (pc := 38) (zd_dr dc_De_addSigned 18 rfl) (by decide))) ?_
  refine zx_ac (xm_pk nt_aload (ok_aload_n (l := l) (B := B) (y := m_De_addSigned) (pc := 41) (k := 2) rfl (zd_dr dc_De_addSigned 19 rfl))) ?_
  refine zx_ac (xm_pk nt_aload (ok_aload_n (l := l) (B := B) (y := m_De_addSigned) (pc := 42) (k := 0) rfl (zd_dr dc_De_addSigned 20 rfl))) ?_
  refine zx_ac (ok_xgetd (ok_getf (l := l) (B := B) (y := m_De_addSigned) (pc := 43) hG (C := zR0) (T := zT0) (N := 8) (ci := 0) (k := 6) rfl zl0 (by decide) (List.mem_of_getElem? (i := 240) (by decide +kernel)) (zd_dr dc_De_addSigned 21 rfl))) ?_
  refine zx_ac (ok_xcallv (ok_callv (l := l) (B := B) (y := m_De_addSigned) (pc := 46) hG (ci := 4) rfl cf_De_addSigned_Na_lowerBy rfl (List.mem_of_getElem? (i := 568) (by decide +kernel)) (List.mem_of_getElem? (i := 569) (by decide +kernel)) (List.mem_of_getElem? (i := 570) (by decide +kernel)) (zd_dr dc_De_addSigned 22 rfl))) ?_
  refine zx_ac (xm_pk nt_goto (ok_goto (l := l) (B := B) (y := m_De_addSigned) (pc := 49) (zd_dr dc_De_addSigned 23 rfl) (by decide))) ?_
  refine zx_ac (xm_pk nt_aload (ok_aload_n (l := l) (B := B) (y := m_De_addSigned) (pc := 52) (k := 0) rfl (zd_dr dc_De_addSigned 24 rfl))) ?_
  refine zx_ac (ok_xgetd (ok_getf (l := l) (B := B) (y := m_De_addSigned) (pc := 53) hG (C := zR0) (T := zT0) (N := 8) (ci := 0) (k := 6) rfl zl0 (by decide) (List.mem_of_getElem? (i := 240) (by decide +kernel)) (zd_dr dc_De_addSigned 25 rfl))) ?_
  refine zx_ac (xm_pk nt_aload (ok_aload_n (l := l) (B := B) (y := m_De_addSigned) (pc := 56) (k := 2) rfl (zd_dr dc_De_addSigned 26 rfl))) ?_
  refine zx_ac (ok_xcallv (ok_callv (l := l) (B := B) (y := m_De_addSigned) (pc := 57) hG (ci := 4) rfl cf_De_addSigned_Na_lowerBy rfl (List.mem_of_getElem? (i := 568) (by decide +kernel)) (List.mem_of_getElem? (i := 569) (by decide +kernel)) (List.mem_of_getElem? (i := 570) (by decide +kernel)) (zd_dr dc_De_addSigned 27 rfl))) ?_
  refine zx_ac (xm_pk nt_aload (ok_aload_n (l := l) (B := B) (y := m_De_addSigned) (pc := 60) (k := 2) rfl (zd_dr dc_De_addSigned 28 rfl))) ?_
  refine zx_ac (xm_pk nt_aload (ok_aload_n (l := l) (B := B) (y := m_De_addSigned) (pc := 61) (k := 0) rfl (zd_dr dc_De_addSigned 29 rfl))) ?_
  refine zx_ac (ok_xgetd (ok_getf (l := l) (B := B) (y := m_De_addSigned) (pc := 62) hG (C := zR0) (T := zT0) (N := 8) (ci := 0) (k := 6) rfl zl0 (by decide) (List.mem_of_getElem? (i := 240) (by decide +kernel)) (zd_dr dc_De_addSigned 30 rfl))) ?_
  refine zx_ac (ok_xcallv (ok_callv (l := l) (B := B) (y := m_De_addSigned) (pc := 65) hG (ci := 4) rfl cf_De_addSigned_Na_copy rfl (List.mem_of_getElem? (i := 550) (by decide +kernel)) (List.mem_of_getElem? (i := 483) (by decide +kernel)) (List.mem_of_getElem? (i := 484) (by decide +kernel)) (zd_dr dc_De_addSigned 31 rfl))) ?_
  refine zx_ac (xm_pk nt_aload (ok_aload_n (l := l) (B := B) (y := m_De_addSigned) (pc := 68) (k := 0) rfl (zd_dr dc_De_addSigned 32 rfl))) ?_
  refine zx_ac (ok_xgetd (ok_getf (l := l) (B := B) (y := m_De_addSigned) (pc := 69) hG (C := zR0) (T := zT0) (N := 8) (ci := 0) (k := 5) rfl zl0 (by decide) (List.mem_of_getElem? (i := 239) (by decide +kernel)) (zd_dr dc_De_addSigned 33 rfl))) ?_
  refine zx_ac (xm_pk nt_iload (ok_iload_n (l := l) (B := B) (y := m_De_addSigned) (pc := 72) (k := 1) rfl (zd_dr dc_De_addSigned 34 rfl))) ?_
  refine zx_ac (ok_xputn (ok_putf (l := l) (B := B) (y := m_De_addSigned) (pc := 73) hG (C := zR6) (T := zT6) (N := 4) (ci := 6) (k := 1) rfl zl6 zt6 (by decide) (List.mem_of_getElem? (i := 217) (by decide +kernel)) rfl (zd_dr dc_De_addSigned 35 rfl))) ?_
  refine zx_ac (ok_xvret (ok_vret (l := l) (B := B) (y := m_De_addSigned) (pc := 76) rfl (zd_dr dc_De_addSigned 36 rfl))) ?_
  exact zx_an
def dl_De_divideRough : List (Nat × Instr × Nat) := [(0, .aload_n 0, 1), (1, .getfield 49, 3), (4, .iload_n 2, 1), (5, .invokevirtual 210, 3), (8, .aload_n 0, 1), (9, .getfield 33, 3), (12, .aload_n 0, 1), (13, .getfield 49, 3), (16, .getfield 95, 3), (19, .aload_n 1, 1), (20, .getfield 131, 3), (23, .aload_n 0, 1), (24, .getfield 62, 3), (27, .invokevirtual 182, 3), (30, .aload_n 0, 1), (31, .getfield 49, 3), (34, .aload_n 0, 1), (35, .getfield 49, 3), (38, .getfield 217, 3), (41, .ifCond .ne (16), 3), (44, .aload_n 0, 1), (45, .getfield 49, 3), (48, .getfield 95, 3), (51, .invokevirtual 201, 3), (54, .ifCond .ne (7), 3), (57, .iconst (1), 1), (58, .goto (4), 3), (61, .iconst (0), 1), (62, .putfield 217, 3), (65, .aload_n 0, 1), (66, .getfield 49, 3), (69, .getfield 95, 3), (72, .aload_n 0, 1), (73, .getfield 62, 3), (76, .invokevirtual 175, 3), (79, .aload_n 0, 1), (80, .getfield 49, 3), (83, .aload_n 0, 1), (84, .getfield 49, 3), (87, .getfield 223, 3), (90, .aload_n 1, 1), (91, .getfield 123, 3), (94, .if_icmp .eq (7), 3), (97, .iconst (1), 1), (98, .goto (4), 3), (101, .iconst (0), 1), (102, .putfield 223, 3), (105, .aload_n 0, 1), (106, .getfield 49, 3), (109, .iload_n 2, 1), (110, .aload_n 1, 1), (111, .getfield 136, 3), (114, .isub, 1), (115, .putfield 174, 3), (118, .return_, 1)]
theorem dc_De_divideRough : ∀ q ∈ dl_De_divideRough, decode (zd_yb m_De_divideRough) q.1 = .ok q.2 := by decide +kernel
def cx_De_divideRough (l : Launch) (B : zd_B) : List (Nat × zx_S) := [(0, xm_p (oc_aload 0 1)), (1, xm_getd 5 4), (4, xm_p (oc_iload 2 5)), (5, xm_callv l B 6 m_Ru_cutTo 1 8), (8, xm_p (oc_aload 0 9)), (9, xm_getd 3 12), (12, xm_p (oc_aload 0 13)), (13, xm_getd 5 16), (16, xm_getr 0 19), (19, xm_p (oc_aload 1 20)), (20, xm_getc 0 23), (23, xm_p (oc_aload 0 24)), (24, xm_getd 7 27), (27, xm_callv l B 2 m_Dv_split 3 30), (30, xm_p (oc_aload 0 31)), (31, xm_getd 5 34), (34, xm_p (oc_aload 0 35)), (35, xm_getd 5 38), (38, xm_getr 3 41), (41, xm_p (oc_if_ne 57 44)), (44, xm_p (oc_aload 0 45)), (45, xm_getd 5 48), (48, xm_getr 0 51), (51, xm_callv l B 4 m_Na_isZero 0 54), (54, xm_p (oc_if_ne 61 57)), (57, xm_p (oc_ci (1) 58)), (58, xm_p (oc_goto 62)), (61, xm_p (oc_ci (0) 62)), (62, xm_putl 65), (65, xm_p (oc_aload 0 66)), (66, xm_getd 5 69), (69, xm_getr 0 72), (72, xm_p (oc_aload 0 73)), (73, xm_getd 7 76), (76, xm_callv l B 4 m_Na_copy 1 79), (79, xm_p (oc_aload 0 80)), (80, xm_getd 5 83), (83, xm_p (oc_aload 0 84)), (84, xm_getd 5 87), (87, xm_getr 1 90), (90, xm_p (oc_aload 1 91)), (91, xm_getc 1 94), (94, xm_p (oc_icmp_eq 101 97)), (97, xm_p (oc_ci (1) 98)), (98, xm_p (oc_goto 102)), (101, xm_p (oc_ci (0) 102)), (102, xm_putn 105), (105, xm_p (oc_aload 0 106)), (106, xm_getd 5 109), (109, xm_p (oc_iload 2 110)), (110, xm_p (oc_aload 1 111)), (111, xm_getc 2 114), (114, xm_p (oc_isub 115)), (115, xm_puts 118), (118, xm_vret)]
set_option maxRecDepth 20000 in
theorem okx_De_divideRough {l : Launch} {B : zd_B} (hG : zd_G B) (hl : l.stackTraces = false) : ∀ q ∈ cx_De_divideRough l B, zx_ok l B m_De_divideRough q.1 q.2 := by
  unfold cx_De_divideRough
  refine zx_ac (xm_pk nt_aload (ok_aload_n (l := l) (B := B) (y := m_De_divideRough) (pc := 0) (k := 0) rfl (zd_dr dc_De_divideRough 0 rfl))) ?_
  refine zx_ac (ok_xgetd (ok_getf (l := l) (B := B) (y := m_De_divideRough) (pc := 1) hG (C := zR0) (T := zT0) (N := 8) (ci := 0) (k := 5) rfl zl0 (by decide) (List.mem_of_getElem? (i := 239) (by decide +kernel)) (zd_dr dc_De_divideRough 1 rfl))) ?_
  refine zx_ac (xm_pk nt_iload (ok_iload_n (l := l) (B := B) (y := m_De_divideRough) (pc := 4) (k := 2) rfl (zd_dr dc_De_divideRough 2 rfl))) ?_
  refine zx_ac (ok_xcallv (ok_callv (l := l) (B := B) (y := m_De_divideRough) (pc := 5) hG (ci := 6) rfl cf_De_divideRough_Ru_cutTo rfl (List.mem_of_getElem? (i := 532) (by decide +kernel)) (List.mem_of_getElem? (i := 533) (by decide +kernel)) (List.mem_of_getElem? (i := 534) (by decide +kernel)) (zd_dr dc_De_divideRough 3 rfl))) ?_
  refine zx_ac (xm_pk nt_aload (ok_aload_n (l := l) (B := B) (y := m_De_divideRough) (pc := 8) (k := 0) rfl (zd_dr dc_De_divideRough 4 rfl))) ?_
  refine zx_ac (ok_xgetd (ok_getf (l := l) (B := B) (y := m_De_divideRough) (pc := 9) hG (C := zR0) (T := zT0) (N := 8) (ci := 0) (k := 3) rfl zl0 (by decide) (List.mem_of_getElem? (i := 237) (by decide +kernel)) (zd_dr dc_De_divideRough 5 rfl))) ?_
  refine zx_ac (xm_pk nt_aload (ok_aload_n (l := l) (B := B) (y := m_De_divideRough) (pc := 12) (k := 0) rfl (zd_dr dc_De_divideRough 6 rfl))) ?_
  refine zx_ac (ok_xgetd (ok_getf (l := l) (B := B) (y := m_De_divideRough) (pc := 13) hG (C := zR0) (T := zT0) (N := 8) (ci := 0) (k := 5) rfl zl0 (by decide) (List.mem_of_getElem? (i := 239) (by decide +kernel)) (zd_dr dc_De_divideRough 7 rfl))) ?_
  refine zx_ac (ok_xgetr (ok_getf (l := l) (B := B) (y := m_De_divideRough) (pc := 16) hG (C := zR6) (T := zT6) (N := 4) (ci := 6) (k := 0) rfl zl6 (by decide) (List.mem_of_getElem? (i := 214) (by decide +kernel)) (zd_dr dc_De_divideRough 8 rfl))) ?_
  refine zx_ac (xm_pk nt_aload (ok_aload_n (l := l) (B := B) (y := m_De_divideRough) (pc := 19) (k := 1) rfl (zd_dr dc_De_divideRough 9 rfl))) ?_
  refine zx_ac (ok_xgetc (ok_getf (l := l) (B := B) (y := m_De_divideRough) (pc := 20) hG (C := zR1) (T := zT1) (N := 3) (ci := 1) (k := 0) rfl zl1 (by decide) (List.mem_of_getElem? (i := 110) (by decide +kernel)) (zd_dr dc_De_divideRough 10 rfl))) ?_
  refine zx_ac (xm_pk nt_aload (ok_aload_n (l := l) (B := B) (y := m_De_divideRough) (pc := 23) (k := 0) rfl (zd_dr dc_De_divideRough 11 rfl))) ?_
  refine zx_ac (ok_xgetd (ok_getf (l := l) (B := B) (y := m_De_divideRough) (pc := 24) hG (C := zR0) (T := zT0) (N := 8) (ci := 0) (k := 7) rfl zl0 (by decide) (List.mem_of_getElem? (i := 241) (by decide +kernel)) (zd_dr dc_De_divideRough 12 rfl))) ?_
  refine zx_ac (ok_xcallv (ok_callv (l := l) (B := B) (y := m_De_divideRough) (pc := 27) hG (ci := 2) rfl cf_De_divideRough_Dv_split rfl (List.mem_of_getElem? (i := 607) (by decide +kernel)) (List.mem_of_getElem? (i := 608) (by decide +kernel)) (List.mem_of_getElem? (i := 609) (by decide +kernel)) (zd_dr dc_De_divideRough 13 rfl))) ?_
  refine zx_ac (xm_pk nt_aload (ok_aload_n (l := l) (B := B) (y := m_De_divideRough) (pc := 30) (k := 0) rfl (zd_dr dc_De_divideRough 14 rfl))) ?_
  refine zx_ac (ok_xgetd (ok_getf (l := l) (B := B) (y := m_De_divideRough) (pc := 31) hG (C := zR0) (T := zT0) (N := 8) (ci := 0) (k := 5) rfl zl0 (by decide) (List.mem_of_getElem? (i := 239) (by decide +kernel)) (zd_dr dc_De_divideRough 15 rfl))) ?_
  refine zx_ac (xm_pk nt_aload (ok_aload_n (l := l) (B := B) (y := m_De_divideRough) (pc := 34) (k := 0) rfl (zd_dr dc_De_divideRough 16 rfl))) ?_
  refine zx_ac (ok_xgetd (ok_getf (l := l) (B := B) (y := m_De_divideRough) (pc := 35) hG (C := zR0) (T := zT0) (N := 8) (ci := 0) (k := 5) rfl zl0 (by decide) (List.mem_of_getElem? (i := 239) (by decide +kernel)) (zd_dr dc_De_divideRough 17 rfl))) ?_
  refine zx_ac (ok_xgetr (ok_getf (l := l) (B := B) (y := m_De_divideRough) (pc := 38) hG (C := zR6) (T := zT6) (N := 4) (ci := 6) (k := 3) rfl zl6 (by decide) (List.mem_of_getElem? (i := 222) (by decide +kernel)) (zd_dr dc_De_divideRough 18 rfl))) ?_
  refine zx_ac (xm_pk nt_if_ne (ok_if_ne (l := l) (B := B) (y := m_De_divideRough) (pc := 41) (zd_dr dc_De_divideRough 19 rfl) (by decide))) ?_
  refine zx_ac (xm_pk nt_aload (ok_aload_n (l := l) (B := B) (y := m_De_divideRough) (pc := 44) (k := 0) rfl (zd_dr dc_De_divideRough 20 rfl))) ?_
  refine zx_ac (ok_xgetd (ok_getf (l := l) (B := B) (y := m_De_divideRough) (pc := 45) hG (C := zR0) (T := zT0) (N := 8) (ci := 0) (k := 5) rfl zl0 (by decide) (List.mem_of_getElem? (i := 239) (by decide +kernel)) (zd_dr dc_De_divideRough 21 rfl))) ?_
  refine zx_ac (ok_xgetr (ok_getf (l := l) (B := B) (y := m_De_divideRough) (pc := 48) hG (C := zR6) (T := zT6) (N := 4) (ci := 6) (k := 0) rfl zl6 (by decide) (List.mem_of_getElem? (i := 214) (by decide +kernel)) (zd_dr dc_De_divideRough 22 rfl))) ?_
  refine zx_ac (ok_xcallv (ok_callv (l := l) (B := B) (y := m_De_divideRough) (pc := 51) hG (ci := 4) rfl cf_De_divideRough_Na_isZero rfl (List.mem_of_getElem? (i := 601) (by decide +kernel)) (List.mem_of_getElem? (i := 490) (by decide +kernel)) (List.mem_of_getElem? (i := 491) (by decide +kernel)) (zd_dr dc_De_divideRough 23 rfl))) ?_
  refine zx_ac (xm_pk nt_if_ne (ok_if_ne (l := l) (B := B) (y := m_De_divideRough) (pc := 54) (zd_dr dc_De_divideRough 24 rfl) (by decide))) ?_
  refine zx_ac (xm_pk nt_ci (ok_iconst (l := l) (B := B) (y := m_De_divideRough) (pc := 57) (n := (1)) (zd_dr dc_De_divideRough 25 rfl) rfl)) ?_
  refine zx_ac (xm_pk nt_goto (ok_goto (l := l) (B := B) (y := m_De_divideRough) (pc := 58) (zd_dr dc_De_divideRough 26 rfl) (by decide))) ?_
  refine zx_ac (xm_pk nt_ci (ok_iconst (l := l) (B := B) (y := m_De_divideRough) (pc := 61) (n := (0)) (zd_dr dc_De_divideRough 27 rfl) rfl)) ?_
  refine zx_ac (ok_xputl (ok_putf (l := l) (B := B) (y := m_De_divideRough) (pc := 62) hG (C := zR6) (T := zT6) (N := 4) (ci := 6) (k := 3) rfl zl6 zt6 (by decide) (List.mem_of_getElem? (i := 222) (by decide +kernel)) rfl (zd_dr dc_De_divideRough 28 rfl))) ?_
  refine zx_ac (xm_pk nt_aload (ok_aload_n (l := l) (B := B) (y := m_De_divideRough) (pc := 65) (k := 0) rfl (zd_dr dc_De_divideRough 29 rfl))) ?_
  refine zx_ac (ok_xgetd (ok_getf (l := l) (B := B) (y := m_De_divideRough) (pc := 66) hG (C := zR0) (T := zT0) (N := 8) (ci := 0) (k := 5) rfl zl0 (by decide) (List.mem_of_getElem? (i := 239) (by decide +kernel)) (zd_dr dc_De_divideRough 30 rfl))) ?_
  refine zx_ac (ok_xgetr (ok_getf (l := l) (B := B) (y := m_De_divideRough) (pc := 69) hG (C := zR6) (T := zT6) (N := 4) (ci := 6) (k := 0) rfl zl6 (by decide) (List.mem_of_getElem? (i := 214) (by decide +kernel)) (zd_dr dc_De_divideRough 31 rfl))) ?_
  refine zx_ac (xm_pk nt_aload (ok_aload_n (l := l) (B := B) (y := m_De_divideRough) (pc := 72) (k := 0) rfl (zd_dr dc_De_divideRough 32 rfl))) ?_
  refine zx_ac (ok_xgetd (ok_getf (l := l) (B := B) (y := m_De_divideRough) (pc := 73) hG (C := zR0) (T := zT0) (N := 8) (ci := 0) (k := 7) rfl zl0 (by decide) (List.mem_of_getElem? (i := 241) (by decide +kernel)) (zd_dr dc_De_divideRough 33 rfl))) ?_
  refine zx_ac (ok_xcallv (ok_callv (l := l) (B := B) (y := m_De_divideRough) (pc := 76) hG (ci := 4) rfl cf_De_divideRough_Na_copy rfl (List.mem_of_getElem? (i := 550) (by decide +kernel)) (List.mem_of_getElem? (i := 483) (by decide +kernel)) (List.mem_of_getElem? (i := 484) (by decide +kernel)) (zd_dr dc_De_divideRough 34 rfl))) ?_
  refine zx_ac (xm_pk nt_aload (ok_aload_n (l := l) (B := B) (y := m_De_divideRough) (pc := 79) (k := 0) rfl (zd_dr dc_De_divideRough 35 rfl))) ?_
  refine zx_ac (ok_xgetd (ok_getf (l := l) (B := B) (y := m_De_divideRough) (pc := 80) hG (C := zR0) (T := zT0) (N := 8) (ci := 0) (k := 5) rfl zl0 (by decide) (List.mem_of_getElem? (i := 239) (by decide +kernel)) (zd_dr dc_De_divideRough 36 rfl))) ?_
  refine zx_ac (xm_pk nt_aload (ok_aload_n (l := l) (B := B) (y := m_De_divideRough) (pc := 83) (k := 0) rfl (zd_dr dc_De_divideRough 37 rfl))) ?_
  refine zx_ac (ok_xgetd (ok_getf (l := l) (B := B) (y := m_De_divideRough) (pc := 84) hG (C := zR0) (T := zT0) (N := 8) (ci := 0) (k := 5) rfl zl0 (by decide) (List.mem_of_getElem? (i := 239) (by decide +kernel)) (zd_dr dc_De_divideRough 38 rfl))) ?_
  refine zx_ac (ok_xgetr (ok_getf (l := l) (B := B) (y := m_De_divideRough) (pc := 87) hG (C := zR6) (T := zT6) (N := 4) (ci := 6) (k := 1) rfl zl6 (by decide) (List.mem_of_getElem? (i := 217) (by decide +kernel)) (zd_dr dc_De_divideRough 39 rfl))) ?_
  refine zx_ac (xm_pk nt_aload (ok_aload_n (l := l) (B := B) (y := m_De_divideRough) (pc := 90) (k := 1) rfl (zd_dr dc_De_divideRough 40 rfl))) ?_
  refine zx_ac (ok_xgetc (ok_getf (l := l) (B := B) (y := m_De_divideRough) (pc := 91) hG (C := zR1) (T := zT1) (N := 3) (ci := 1) (k := 1) rfl zl1 (by decide) (List.mem_of_getElem? (i := 114) (by decide +kernel)) (zd_dr dc_De_divideRough 41 rfl))) ?_
  refine zx_ac (xm_pk nt_icmp_eq (ok_icmp_eq (l := l) (B := B) (y := m_De_divideRough) (pc := 94) (zd_dr dc_De_divideRough 42 rfl) (by decide))) ?_
  refine zx_ac (xm_pk nt_ci (ok_iconst (l := l) (B := B) (y := m_De_divideRough) (pc := 97) (n := (1)) (zd_dr dc_De_divideRough 43 rfl) rfl)) ?_
  refine zx_ac (xm_pk nt_goto (ok_goto (l := l) (B := B) (y := m_De_divideRough) (pc := 98) (zd_dr dc_De_divideRough 44 rfl) (by decide))) ?_
  refine zx_ac (xm_pk nt_ci (ok_iconst (l := l) (B := B) (y := m_De_divideRough) (pc := 101) (n := (0)) (zd_dr dc_De_divideRough 45 rfl) rfl)) ?_
  refine zx_ac (ok_xputn (ok_putf (l := l) (B := B) (y := m_De_divideRough) (pc := 102) hG (C := zR6) (T := zT6) (N := 4) (ci := 6) (k := 1) rfl zl6 zt6 (by decide) (List.mem_of_getElem? (i := 217) (by decide +kernel)) rfl (zd_dr dc_De_divideRough 46 rfl))) ?_
  refine zx_ac (xm_pk nt_aload (ok_aload_n (l := l) (B := B) (y := m_De_divideRough) (pc := 105) (k := 0) rfl (zd_dr dc_De_divideRough 47 rfl))) ?_
  refine zx_ac (ok_xgetd (ok_getf (l := l) (B := B) (y := m_De_divideRough) (pc := 106) hG (C := zR0) (T := zT0) (N := 8) (ci := 0) (k := 5) rfl zl0 (by decide) (List.mem_of_getElem? (i := 239) (by decide +kernel)) (zd_dr dc_De_divideRough 48 rfl))) ?_
  refine zx_ac (xm_pk nt_iload (ok_iload_n (l := l) (B := B) (y := m_De_divideRough) (pc := 109) (k := 2) rfl (zd_dr dc_De_divideRough 49 rfl))) ?_
  refine zx_ac (xm_pk nt_aload (ok_aload_n (l := l) (B := B) (y := m_De_divideRough) (pc := 110) (k := 1) rfl (zd_dr dc_De_divideRough 50 rfl))) ?_
  refine zx_ac (ok_xgetc (ok_getf (l := l) (B := B) (y := m_De_divideRough) (pc := 111) hG (C := zR1) (T := zT1) (N := 3) (ci := 1) (k := 2) rfl zl1 (by decide) (List.mem_of_getElem? (i := 118) (by decide +kernel)) (zd_dr dc_De_divideRough 51 rfl))) ?_
  refine zx_ac (xm_pk nt_isub (ok_isub (l := l) (B := B) (y := m_De_divideRough) (pc := 114) (zd_dr dc_De_divideRough 52 rfl))) ?_
  refine zx_ac (ok_xputs (ok_putf (l := l) (B := B) (y := m_De_divideRough) (pc := 115) hG (C := zR6) (T := zT6) (N := 4) (ci := 6) (k := 2) rfl zl6 zt6 (by decide) (List.mem_of_getElem? (i := 220) (by decide +kernel)) rfl (zd_dr dc_De_divideRough 53 rfl))) ?_
  refine zx_ac (ok_xvret (ok_vret (l := l) (B := B) (y := m_De_divideRough) (pc := 118) rfl (zd_dr dc_De_divideRough 54 rfl))) ?_
  exact zx_an
def dl_De_reduceRaised : List (Nat × Instr × Nat) := [(0, .iload_n 2, 1), (1, .istore_n 3, 1), (2, .iload_n 3, 1), (3, .ifCond .le (49), 3), (6, .aload_n 0, 1), (7, .getfield 49, 3), (10, .getfield 95, 3), (13, .iload_n 3, 1), (14, .sipush (1000), 3), (17, .invokestatic 296, 3), (20, .invokevirtual 178, 3), (23, .pop, 1), (24, .aload_n 0, 1), (25, .getfield 33, 3), (28, .aload_n 0, 1), (29, .getfield 49, 3), (32, .getfield 95, 3), (35, .aload_n 1, 1), (36, .aload_n 0, 1), (37, .getfield 62, 3), (40, .invokevirtual 182, 3), (43, .iinc 3 (-1000), 6), (49, .goto (-47), 3), (52, .return_, 1)]
theorem dc_De_reduceRaised : ∀ q ∈ dl_De_reduceRaised, decode (zd_yb m_De_reduceRaised) q.1 = .ok q.2 := by decide +kernel
def cx_De_reduceRaised (l : Launch) (B : zd_B) : List (Nat × zx_S) := [(0, xm_p (oc_iload 2 1)), (1, xm_p (oc_istore 3 2)), (2, xm_p (oc_iload 3 3)), (3, xm_p (oc_if_le 52 6)), (6, xm_p (oc_aload 0 7)), (7, xm_getd 5 10), (10, xm_getr 0 13), (13, xm_p (oc_iload 3 14)), (14, xm_p (oc_ci (1000) 17)), (17, xm_calls l B m_Ma_min 2 20), (20, xm_callv l B 4 m_Na_move 1 23), (23, xm_p (oc_pop 24)), (24, xm_p (oc_aload 0 25)), (25, xm_getd 3 28), (28, xm_p (oc_aload 0 29)), (29, xm_getd 5 32), (32, xm_getr 0 35), (35, xm_p (oc_aload 1 36)), (36, xm_p (oc_aload 0 37)), (37, xm_getd 7 40), (40, xm_callv l B 2 m_Dv_split 3 43), (43, xm_p (oc_iinc 3 (-1000) 49)), (49, xm_p (oc_goto 2)), (52, xm_vret)]
set_option maxRecDepth 20000 in
theorem okx_De_reduceRaised {l : Launch} {B : zd_B} (hG : zd_G B) (hl : l.stackTraces = false) : ∀ q ∈ cx_De_reduceRaised l B, zx_ok l B m_De_reduceRaised q.1 q.2 := by
  unfold cx_De_reduceRaised
  refine zx_ac (xm_pk nt_iload (ok_iload_n (l := l) (B := B) (y := m_De_reduceRaised) (pc := 0) (k := 2) rfl (zd_dr dc_De_reduceRaised 0 rfl))) ?_
  refine zx_ac (xm_pk nt_istore (ok_istore_n (l := l) (B := B) (y := m_De_reduceRaised) (pc := 1) (k := 3) rfl (zd_dr dc_De_reduceRaised 1 rfl) (by decide))) ?_
  refine zx_ac (xm_pk nt_iload (ok_iload_n (l := l) (B := B) (y := m_De_reduceRaised) (pc := 2) (k := 3) rfl (zd_dr dc_De_reduceRaised 2 rfl))) ?_
  refine zx_ac (xm_pk nt_if_le (ok_if_le (l := l) (B := B) (y := m_De_reduceRaised) (pc := 3) (zd_dr dc_De_reduceRaised 3 rfl) (by decide))) ?_
  refine zx_ac (xm_pk nt_aload (ok_aload_n (l := l) (B := B) (y := m_De_reduceRaised) (pc := 6) (k := 0) rfl (zd_dr dc_De_reduceRaised 4 rfl))) ?_
  refine zx_ac (ok_xgetd (ok_getf (l := l) (B := B) (y := m_De_reduceRaised) (pc := 7) hG (C := zR0) (T := zT0) (N := 8) (ci := 0) (k := 5) rfl zl0 (by decide) (List.mem_of_getElem? (i := 239) (by decide +kernel)) (zd_dr dc_De_reduceRaised 5 rfl))) ?_
  refine zx_ac (ok_xgetr (ok_getf (l := l) (B := B) (y := m_De_reduceRaised) (pc := 10) hG (C := zR6) (T := zT6) (N := 4) (ci := 6) (k := 0) rfl zl6 (by decide) (List.mem_of_getElem? (i := 214) (by decide +kernel)) (zd_dr dc_De_reduceRaised 6 rfl))) ?_
  refine zx_ac (xm_pk nt_iload (ok_iload_n (l := l) (B := B) (y := m_De_reduceRaised) (pc := 13) (k := 3) rfl (zd_dr dc_De_reduceRaised 7 rfl))) ?_
  refine zx_ac (xm_pk nt_ci (ok_sipush (l := l) (B := B) (y := m_De_reduceRaised) (pc := 14) (n := (1000)) (zd_dr dc_De_reduceRaised 8 rfl) rfl)) ?_
  refine zx_ac (ok_xcalls (ok_calls (l := l) (B := B) (y := m_De_reduceRaised) (pc := 17) hG cf_De_reduceRaised_Ma_min rfl (List.mem_of_getElem? (i := 701) (by decide +kernel)) (List.mem_of_getElem? (i := 688) (by decide +kernel)) (List.mem_of_getElem? (i := 72) (by decide +kernel)) (zd_dr dc_De_reduceRaised 9 rfl))) ?_
  refine zx_ac (ok_xcallv (ok_callv (l := l) (B := B) (y := m_De_reduceRaised) (pc := 20) hG (ci := 4) rfl cf_De_reduceRaised_Na_move rfl (List.mem_of_getElem? (i := 551) (by decide +kernel)) (List.mem_of_getElem? (i := 537) (by decide +kernel)) (List.mem_of_getElem? (i := 538) (by decide +kernel)) (zd_dr dc_De_reduceRaised 10 rfl))) ?_
  refine zx_ac (xm_pk nt_pop (ok_pop (l := l) (B := B) (y := m_De_reduceRaised) (pc := 23) (zd_dr dc_De_reduceRaised 11 rfl))) ?_
  refine zx_ac (xm_pk nt_aload (ok_aload_n (l := l) (B := B) (y := m_De_reduceRaised) (pc := 24) (k := 0) rfl (zd_dr dc_De_reduceRaised 12 rfl))) ?_
  refine zx_ac (ok_xgetd (ok_getf (l := l) (B := B) (y := m_De_reduceRaised) (pc := 25) hG (C := zR0) (T := zT0) (N := 8) (ci := 0) (k := 3) rfl zl0 (by decide) (List.mem_of_getElem? (i := 237) (by decide +kernel)) (zd_dr dc_De_reduceRaised 13 rfl))) ?_
  refine zx_ac (xm_pk nt_aload (ok_aload_n (l := l) (B := B) (y := m_De_reduceRaised) (pc := 28) (k := 0) rfl (zd_dr dc_De_reduceRaised 14 rfl))) ?_
  refine zx_ac (ok_xgetd (ok_getf (l := l) (B := B) (y := m_De_reduceRaised) (pc := 29) hG (C := zR0) (T := zT0) (N := 8) (ci := 0) (k := 5) rfl zl0 (by decide) (List.mem_of_getElem? (i := 239) (by decide +kernel)) (zd_dr dc_De_reduceRaised 15 rfl))) ?_
  refine zx_ac (ok_xgetr (ok_getf (l := l) (B := B) (y := m_De_reduceRaised) (pc := 32) hG (C := zR6) (T := zT6) (N := 4) (ci := 6) (k := 0) rfl zl6 (by decide) (List.mem_of_getElem? (i := 214) (by decide +kernel)) (zd_dr dc_De_reduceRaised 16 rfl))) ?_
  refine zx_ac (xm_pk nt_aload (ok_aload_n (l := l) (B := B) (y := m_De_reduceRaised) (pc := 35) (k := 1) rfl (zd_dr dc_De_reduceRaised 17 rfl))) ?_
  refine zx_ac (xm_pk nt_aload (ok_aload_n (l := l) (B := B) (y := m_De_reduceRaised) (pc := 36) (k := 0) rfl (zd_dr dc_De_reduceRaised 18 rfl))) ?_
  refine zx_ac (ok_xgetd (ok_getf (l := l) (B := B) (y := m_De_reduceRaised) (pc := 37) hG (C := zR0) (T := zT0) (N := 8) (ci := 0) (k := 7) rfl zl0 (by decide) (List.mem_of_getElem? (i := 241) (by decide +kernel)) (zd_dr dc_De_reduceRaised 19 rfl))) ?_
  refine zx_ac (ok_xcallv (ok_callv (l := l) (B := B) (y := m_De_reduceRaised) (pc := 40) hG (ci := 2) rfl cf_De_reduceRaised_Dv_split rfl (List.mem_of_getElem? (i := 607) (by decide +kernel)) (List.mem_of_getElem? (i := 608) (by decide +kernel)) (List.mem_of_getElem? (i := 609) (by decide +kernel)) (zd_dr dc_De_reduceRaised 20 rfl))) ?_
  refine zx_ac (xm_pk nt_iinc (ok_iincW (l := l) (B := B) (y := m_De_reduceRaised) (pc := 43) (zd_dr dc_De_reduceRaised 21 rfl) (by decide) rfl)) ?_
  refine zx_ac (xm_pk nt_goto (ok_goto (l := l) (B := B) (y := m_De_reduceRaised) (pc := 49) (zd_dr dc_De_reduceRaised 22 rfl) (by decide))) ?_
  refine zx_ac (ok_xvret (ok_vret (l := l) (B := B) (y := m_De_reduceRaised) (pc := 52) rfl (zd_dr dc_De_reduceRaised 23 rfl))) ?_
  exact zx_an
def dl_De_growRough : List (Nat × Instr × Nat) := [(0, .aload_n 0, 1), (1, .getfield 62, 3), (4, .aload_n 0, 1), (5, .getfield 49, 3), (8, .getfield 95, 3), (11, .aload_n 1, 1), (12, .invokevirtual 132, 3), (15, .aload_n 0, 1), (16, .getfield 62, 3), (19, .invokestatic 276, 3), (22, .aload_n 0, 1), (23, .getfield 49, 3), (26, .getfield 95, 3), (29, .aload_n 0, 1), (30, .getfield 62, 3), (33, .invokevirtual 175, 3), (36, .return_, 1)]
theorem dc_De_growRough : ∀ q ∈ dl_De_growRough, decode (zd_yb m_De_growRough) q.1 = .ok q.2 := by decide +kernel
def cx_De_growRough (l : Launch) (B : zd_B) : List (Nat × zx_S) := [(0, xm_p (oc_aload 0 1)), (1, xm_getd 7 4), (4, xm_p (oc_aload 0 5)), (5, xm_getd 5 8), (8, xm_getr 0 11), (11, xm_p (oc_aload 1 12)), (12, xm_callv l B 4 m_Na_becomeProduct 2 15), (15, xm_p (oc_aload 0 16)), (16, xm_getd 7 19), (19, xm_calls l B m_De_demandDigits 1 22), (22, xm_p (oc_aload 0 23)), (23, xm_getd 5 26), (26, xm_getr 0 29), (29, xm_p (oc_aload 0 30)), (30, xm_getd 7 33), (33, xm_callv l B 4 m_Na_copy 1 36), (36, xm_vret)]
set_option maxRecDepth 20000 in
theorem okx_De_growRough {l : Launch} {B : zd_B} (hG : zd_G B) (hl : l.stackTraces = false) : ∀ q ∈ cx_De_growRough l B, zx_ok l B m_De_growRough q.1 q.2 := by
  unfold cx_De_growRough
  refine zx_ac (xm_pk nt_aload (ok_aload_n (l := l) (B := B) (y := m_De_growRough) (pc := 0) (k := 0) rfl (zd_dr dc_De_growRough 0 rfl))) ?_
  refine zx_ac (ok_xgetd (ok_getf (l := l) (B := B) (y := m_De_growRough) (pc := 1) hG (C := zR0) (T := zT0) (N := 8) (ci := 0) (k := 7) rfl zl0 (by decide) (List.mem_of_getElem? (i := 241) (by decide +kernel)) (zd_dr dc_De_growRough 1 rfl))) ?_
  refine zx_ac (xm_pk nt_aload (ok_aload_n (l := l) (B := B) (y := m_De_growRough) (pc := 4) (k := 0) rfl (zd_dr dc_De_growRough 2 rfl))) ?_
  refine zx_ac (ok_xgetd (ok_getf (l := l) (B := B) (y := m_De_growRough) (pc := 5) hG (C := zR0) (T := zT0) (N := 8) (ci := 0) (k := 5) rfl zl0 (by decide) (List.mem_of_getElem? (i := 239) (by decide +kernel)) (zd_dr dc_De_growRough 3 rfl))) ?_
  refine zx_ac (ok_xgetr (ok_getf (l := l) (B := B) (y := m_De_growRough) (pc := 8) hG (C := zR6) (T := zT6) (N := 4) (ci := 6) (k := 0) rfl zl6 (by decide) (List.mem_of_getElem? (i := 214) (by decide +kernel)) (zd_dr dc_De_growRough 4 rfl))) ?_
  refine zx_ac (xm_pk nt_aload (ok_aload_n (l := l) (B := B) (y := m_De_growRough) (pc := 11) (k := 1) rfl (zd_dr dc_De_growRough 5 rfl))) ?_
  refine zx_ac (ok_xcallv (ok_callv (l := l) (B := B) (y := m_De_growRough) (pc := 12) hG (ci := 4) rfl cf_De_growRough_Na_becomeProduct rfl (List.mem_of_getElem? (i := 579) (by decide +kernel)) (List.mem_of_getElem? (i := 580) (by decide +kernel)) (List.mem_of_getElem? (i := 581) (by decide +kernel)) (zd_dr dc_De_growRough 6 rfl))) ?_
  refine zx_ac (xm_pk nt_aload (ok_aload_n (l := l) (B := B) (y := m_De_growRough) (pc := 15) (k := 0) rfl (zd_dr dc_De_growRough 7 rfl))) ?_
  refine zx_ac (ok_xgetd (ok_getf (l := l) (B := B) (y := m_De_growRough) (pc := 16) hG (C := zR0) (T := zT0) (N := 8) (ci := 0) (k := 7) rfl zl0 (by decide) (List.mem_of_getElem? (i := 241) (by decide +kernel)) (zd_dr dc_De_growRough 8 rfl))) ?_
  refine zx_ac (ok_xcalls (ok_calls (l := l) (B := B) (y := m_De_growRough) (pc := 19) hG cf_De_growRough_De_demandDigits rfl (List.mem_of_getElem? (i := 470) (by decide +kernel)) (List.mem_of_getElem? (i := 471) (by decide +kernel)) (List.mem_of_getElem? (i := 56) (by decide +kernel)) (zd_dr dc_De_growRough 9 rfl))) ?_
  refine zx_ac (xm_pk nt_aload (ok_aload_n (l := l) (B := B) (y := m_De_growRough) (pc := 22) (k := 0) rfl (zd_dr dc_De_growRough 10 rfl))) ?_
  refine zx_ac (ok_xgetd (ok_getf (l := l) (B := B) (y := m_De_growRough) (pc := 23) hG (C := zR0) (T := zT0) (N := 8) (ci := 0) (k := 5) rfl zl0 (by decide) (List.mem_of_getElem? (i := 239) (by decide +kernel)) (zd_dr dc_De_growRough 11 rfl))) ?_
  refine zx_ac (ok_xgetr (ok_getf (l := l) (B := B) (y := m_De_growRough) (pc := 26) hG (C := zR6) (T := zT6) (N := 4) (ci := 6) (k := 0) rfl zl6 (by decide) (List.mem_of_getElem? (i := 214) (by decide +kernel)) (zd_dr dc_De_growRough 12 rfl))) ?_
  refine zx_ac (xm_pk nt_aload (ok_aload_n (l := l) (B := B) (y := m_De_growRough) (pc := 29) (k := 0) rfl (zd_dr dc_De_growRough 13 rfl))) ?_
  refine zx_ac (ok_xgetd (ok_getf (l := l) (B := B) (y := m_De_growRough) (pc := 30) hG (C := zR0) (T := zT0) (N := 8) (ci := 0) (k := 7) rfl zl0 (by decide) (List.mem_of_getElem? (i := 241) (by decide +kernel)) (zd_dr dc_De_growRough 14 rfl))) ?_
  refine zx_ac (ok_xcallv (ok_callv (l := l) (B := B) (y := m_De_growRough) (pc := 33) hG (ci := 4) rfl cf_De_growRough_Na_copy rfl (List.mem_of_getElem? (i := 550) (by decide +kernel)) (List.mem_of_getElem? (i := 483) (by decide +kernel)) (List.mem_of_getElem? (i := 484) (by decide +kernel)) (zd_dr dc_De_growRough 15 rfl))) ?_
  refine zx_ac (ok_xvret (ok_vret (l := l) (B := B) (y := m_De_growRough) (pc := 36) rfl (zd_dr dc_De_growRough 16 rfl))) ?_
  exact zx_an
def dl_De_orderOfSizes : List (Nat × Instr × Nat) := [(0, .aload_n 1, 1), (1, .getfield 131, 3), (4, .invokevirtual 164, 3), (7, .aload_n 1, 1), (8, .getfield 136, 3), (11, .isub, 1), (12, .istore_n 3, 1), (13, .aload_n 2, 1), (14, .getfield 131, 3), (17, .invokevirtual 164, 3), (20, .aload_n 2, 1), (21, .getfield 136, 3), (24, .isub, 1), (25, .istore 4, 2), (27, .iload_n 3, 1), (28, .iload 4, 2), (30, .if_icmp .eq (10), 3), (33, .iload_n 3, 1), (34, .iload 4, 2), (36, .invokestatic 227, 3), (39, .ireturn, 1), (40, .aload_n 0, 1), (41, .aload_n 1, 1), (42, .aload_n 2, 1), (43, .invokevirtual 119, 3), (46, .aload_n 0, 1), (47, .getfield 49, 3), (50, .getfield 95, 3), (53, .aload_n 0, 1), (54, .getfield 58, 3), (57, .invokevirtual 289, 3), (60, .ireturn, 1)]
theorem dc_De_orderOfSizes : ∀ q ∈ dl_De_orderOfSizes, decode (zd_yb m_De_orderOfSizes) q.1 = .ok q.2 := by decide +kernel
def cx_De_orderOfSizes (l : Launch) (B : zd_B) : List (Nat × zx_S) := [(0, xm_p (oc_aload 1 1)), (1, xm_getc 0 4), (4, xm_callv l B 4 m_Na_digits 0 7), (7, xm_p (oc_aload 1 8)), (8, xm_getc 2 11), (11, xm_p (oc_isub 12)), (12, xm_p (oc_istore 3 13)), (13, xm_p (oc_aload 2 14)), (14, xm_getc 0 17), (17, xm_callv l B 4 m_Na_digits 0 20), (20, xm_p (oc_aload 2 21)), (21, xm_getc 2 24), (24, xm_p (oc_isub 25)), (25, xm_p (oc_istore 4 27)), (27, xm_p (oc_iload 3 28)), (28, xm_p (oc_iload 4 30)), (30, xm_p (oc_icmp_eq 40 33)), (33, xm_p (oc_iload 3 34)), (34, xm_p (oc_iload 4 36)), (36, xm_calls l B m_In_compare 2 39), (39, xm_iret), (40, xm_p (oc_aload 0 41)), (41, xm_p (oc_aload 1 42)), (42, xm_p (oc_aload 2 43)), (43, xm_callv l B 0 m_De_align 2 46), (46, xm_p (oc_aload 0 47)), (47, xm_getd 5 50), (50, xm_getr 0 53), (53, xm_p (oc_aload 0 54)), (54, xm_getd 6 57), (57, xm_callv l B 4 m_Na_order 1 60), (60, xm_iret)]
set_option maxRecDepth 20000 in
theorem okx_De_orderOfSizes {l : Launch} {B : zd_B} (hG : zd_G B) (hl : l.stackTraces = false) : ∀ q ∈ cx_De_orderOfSizes l B, zx_ok l B m_De_orderOfSizes q.1 q.2 := by
  unfold cx_De_orderOfSizes
  refine zx_ac (xm_pk nt_aload (ok_aload_n (l := l) (B := B) (y := m_De_orderOfSizes) (pc := 0) (k := 1) rfl (zd_dr dc_De_orderOfSizes 0 rfl))) ?_
  refine zx_ac (ok_xgetc (ok_getf (l := l) (B := B) (y := m_De_orderOfSizes) (pc := 1) hG (C := zR1) (T := zT1) (N := 3) (ci := 1) (k := 0) rfl zl1 (by decide) (List.mem_of_getElem? (i := 110) (by decide +kernel)) (zd_dr dc_De_orderOfSizes 1 rfl))) ?_
  refine zx_ac (ok_xcallv (ok_callv (l := l) (B := B) (y := m_De_orderOfSizes) (pc := 4) hG (ci := 4) rfl cf_De_orderOfSizes_Na_digits rfl (List.mem_of_getElem? (i := 473) (by decide +kernel)) (List.mem_of_getElem? (i := 474) (by decide +kernel)) (List.mem_of_getElem? (i := 475) (by decide +kernel)) (zd_dr dc_De_orderOfSizes 2 rfl))) ?_
  refine zx_ac (xm_pk nt_aload (ok_aload_n (l := l) (B := B) (y := m_De_orderOfSizes) (pc := 7) (k := 1) rfl (zd_dr dc_De_orderOfSizes 3 rfl))) ?_
  refine zx_ac (ok_xgetc (ok_getf (l := l) (B := B) (y := m_De_orderOfSizes) (pc := 8) hG (C := zR1) (T := zT1) (N := 3) (ci := 1) (k := 2) rfl zl1 (by decide) (List.mem_of_getElem? (i := 118) (by decide +kernel)) (zd_dr dc_De_orderOfSizes 4 rfl))) ?_
  refine zx_ac (xm_pk nt_isub (ok_isub (l := l) (B := B) (y := m_De_orderOfSizes) (pc := 11) (zd_dr dc_De_orderOfSizes 5 rfl))) ?_
  refine zx_ac (xm_pk nt_istore (ok_istore_n (l := l) (B := B) (y := m_De_orderOfSizes) (pc := 12) (k := 3) rfl (zd_dr dc_De_orderOfSizes 6 rfl) (by decide))) ?_
  refine zx_ac (xm_pk nt_aload (ok_aload_n (l := l) (B := B) (y := m_De_orderOfSizes) (pc := 13) (k := 2) rfl (zd_dr dc_De_orderOfSizes 7 rfl))) ?_
  refine zx_ac (ok_xgetc (ok_getf (l := l) (B := B) (y := m_De_orderOfSizes) (pc := 14) hG (C := zR1) (T := zT1) (N := 3) (ci := 1) (k := 0) rfl zl1 (by decide) (List.mem_of_getElem? (i := 110) (by decide +kernel)) (zd_dr dc_De_orderOfSizes 8 rfl))) ?_
  refine zx_ac (ok_xcallv (ok_callv (l := l) (B := B) (y := m_De_orderOfSizes) (pc := 17) hG (ci := 4) rfl cf_De_orderOfSizes_Na_digits rfl (List.mem_of_getElem? (i := 473) (by decide +kernel)) (List.mem_of_getElem? (i := 474) (by decide +kernel)) (List.mem_of_getElem? (i := 475) (by decide +kernel)) (zd_dr dc_De_orderOfSizes 9 rfl))) ?_
  refine zx_ac (xm_pk nt_aload (ok_aload_n (l := l) (B := B) (y := m_De_orderOfSizes) (pc := 20) (k := 2) rfl (zd_dr dc_De_orderOfSizes 10 rfl))) ?_
  refine zx_ac (ok_xgetc (ok_getf (l := l) (B := B) (y := m_De_orderOfSizes) (pc := 21) hG (C := zR1) (T := zT1) (N := 3) (ci := 1) (k := 2) rfl zl1 (by decide) (List.mem_of_getElem? (i := 118) (by decide +kernel)) (zd_dr dc_De_orderOfSizes 11 rfl))) ?_
  refine zx_ac (xm_pk nt_isub (ok_isub (l := l) (B := B) (y := m_De_orderOfSizes) (pc := 24) (zd_dr dc_De_orderOfSizes 12 rfl))) ?_
  refine zx_ac (xm_pk nt_istore (ok_istore (l := l) (B := B) (y := m_De_orderOfSizes) (pc := 25) (zd_dr dc_De_orderOfSizes 13 rfl) (by decide))) ?_
  refine zx_ac (xm_pk nt_iload (ok_iload_n (l := l) (B := B) (y := m_De_orderOfSizes) (pc := 27) (k := 3) rfl (zd_dr dc_De_orderOfSizes 14 rfl))) ?_
  refine zx_ac (xm_pk nt_iload (ok_iload (l := l) (B := B) (y := m_De_orderOfSizes) (pc := 28) (zd_dr dc_De_orderOfSizes 15 rfl))) ?_
  refine zx_ac (xm_pk nt_icmp_eq (ok_icmp_eq (l := l) (B := B) (y := m_De_orderOfSizes) (pc := 30) (zd_dr dc_De_orderOfSizes 16 rfl) (by decide))) ?_
  refine zx_ac (xm_pk nt_iload (ok_iload_n (l := l) (B := B) (y := m_De_orderOfSizes) (pc := 33) (k := 3) rfl (zd_dr dc_De_orderOfSizes 17 rfl))) ?_
  refine zx_ac (xm_pk nt_iload (ok_iload (l := l) (B := B) (y := m_De_orderOfSizes) (pc := 34) (zd_dr dc_De_orderOfSizes 18 rfl))) ?_
  refine zx_ac (ok_xcalls (ok_calls (l := l) (B := B) (y := m_De_orderOfSizes) (pc := 36) hG cf_De_orderOfSizes_In_compare rfl (List.mem_of_getElem? (i := 791) (by decide +kernel)) (List.mem_of_getElem? (i := 566) (by decide +kernel)) (List.mem_of_getElem? (i := 73) (by decide +kernel)) (zd_dr dc_De_orderOfSizes 19 rfl))) ?_
  refine zx_ac (ok_xiret (ok_iret (l := l) (B := B) (y := m_De_orderOfSizes) (pc := 39) rfl (zd_dr dc_De_orderOfSizes 20 rfl))) ?_
  refine zx_ac (xm_pk nt_aload (ok_aload_n (l := l) (B := B) (y := m_De_orderOfSizes) (pc := 40) (k := 0) rfl (zd_dr dc_De_orderOfSizes 21 rfl))) ?_
  refine zx_ac (xm_pk nt_aload (ok_aload_n (l := l) (B := B) (y := m_De_orderOfSizes) (pc := 41) (k := 1) rfl (zd_dr dc_De_orderOfSizes 22 rfl))) ?_
  refine zx_ac (xm_pk nt_aload (ok_aload_n (l := l) (B := B) (y := m_De_orderOfSizes) (pc := 42) (k := 2) rfl (zd_dr dc_De_orderOfSizes 23 rfl))) ?_
  refine zx_ac (ok_xcallv (ok_callv (l := l) (B := B) (y := m_De_orderOfSizes) (pc := 43) hG (ci := 0) rfl cf_De_orderOfSizes_De_align rfl (List.mem_of_getElem? (i := 519) (by decide +kernel)) (List.mem_of_getElem? (i := 521) (by decide +kernel)) (List.mem_of_getElem? (i := 5) (by decide +kernel)) (zd_dr dc_De_orderOfSizes 24 rfl))) ?_
  refine zx_ac (xm_pk nt_aload (ok_aload_n (l := l) (B := B) (y := m_De_orderOfSizes) (pc := 46) (k := 0) rfl (zd_dr dc_De_orderOfSizes 25 rfl))) ?_
  refine zx_ac (ok_xgetd (ok_getf (l := l) (B := B) (y := m_De_orderOfSizes) (pc := 47) hG (C := zR0) (T := zT0) (N := 8) (ci := 0) (k := 5) rfl zl0 (by decide) (List.mem_of_getElem? (i := 239) (by decide +kernel)) (zd_dr dc_De_orderOfSizes 26 rfl))) ?_
  refine zx_ac (ok_xgetr (ok_getf (l := l) (B := B) (y := m_De_orderOfSizes) (pc := 50) hG (C := zR6) (T := zT6) (N := 4) (ci := 6) (k := 0) rfl zl6 (by decide) (List.mem_of_getElem? (i := 214) (by decide +kernel)) (zd_dr dc_De_orderOfSizes 27 rfl))) ?_
  refine zx_ac (xm_pk nt_aload (ok_aload_n (l := l) (B := B) (y := m_De_orderOfSizes) (pc := 53) (k := 0) rfl (zd_dr dc_De_orderOfSizes 28 rfl))) ?_
  refine zx_ac (ok_xgetd (ok_getf (l := l) (B := B) (y := m_De_orderOfSizes) (pc := 54) hG (C := zR0) (T := zT0) (N := 8) (ci := 0) (k := 6) rfl zl0 (by decide) (List.mem_of_getElem? (i := 240) (by decide +kernel)) (zd_dr dc_De_orderOfSizes 29 rfl))) ?_
  refine zx_ac (ok_xcallv (ok_callv (l := l) (B := B) (y := m_De_orderOfSizes) (pc := 57) hG (ci := 4) rfl cf_De_orderOfSizes_Na_order rfl (List.mem_of_getElem? (i := 561) (by decide +kernel)) (List.mem_of_getElem? (i := 562) (by decide +kernel)) (List.mem_of_getElem? (i := 563) (by decide +kernel)) (zd_dr dc_De_orderOfSizes 30 rfl))) ?_
  refine zx_ac (ok_xiret (ok_iret (l := l) (B := B) (y := m_De_orderOfSizes) (pc := 60) rfl (zd_dr dc_De_orderOfSizes 31 rfl))) ?_
  exact zx_an

/-! written by gencode.py: code of the model -/
def gM : zg := (53, 8, [(0, 1100), (0, 10000), (0, 10), (2, 10), (0, 10), (0, 4400), (0, 4400), (0, 2200), (0, 2202), (0, 12200)])
theorem cf_Mo_bring_Mo_cut : zd_cf m_Mo_bring m_Mo_cut 2 := ⟨(List.mem_of_getElem? (i := 1071) (by decide +kernel)), by decide +kernel, by decide, by decide, ⟨by decide, by decide⟩, by decide +kernel⟩
theorem cf_Mo_bring_Mo_lengthen : zd_cf m_Mo_bring m_Mo_lengthen 1 := ⟨(List.mem_of_getElem? (i := 1095) (by decide +kernel)), by decide +kernel, by decide, by decide, ⟨by decide, by decide⟩, by decide +kernel⟩
theorem cf_Mo_bring_Mo_store : zd_cf m_Mo_bring m_Mo_store 1 := ⟨(List.mem_of_getElem? (i := 983) (by decide +kernel)), by decide +kernel, by decide, by decide, ⟨by decide, by decide⟩, by decide +kernel⟩
theorem cf_Mo_bring_Mo_trim : zd_cf m_Mo_bring m_Mo_trim 0 := ⟨(List.mem_of_getElem? (i := 987) (by decide +kernel)), by decide +kernel, by decide, by decide, ⟨by decide, by decide⟩, by decide +kernel⟩
theorem cf_Mo_cut_Mo_grows : zd_cf m_Mo_cut m_Mo_grows 2 := ⟨(List.mem_of_getElem? (i := 1075) (by decide +kernel)), by decide +kernel, by decide, by decide, ⟨by decide, by decide⟩, by decide +kernel⟩
theorem cf_Mo_grows_Mo_isMore : zd_cf m_Mo_grows m_Mo_isMore 1 := ⟨(List.mem_of_getElem? (i := 1079) (by decide +kernel)), by decide +kernel, by decide, by decide, ⟨by decide, by decide⟩, by decide +kernel⟩
theorem cf_Mo_store_Mo_trim : zd_cf m_Mo_store m_Mo_trim 0 := ⟨(List.mem_of_getElem? (i := 987) (by decide +kernel)), by decide +kernel, by decide, by decide, ⟨by decide, by decide⟩, by decide +kernel⟩
theorem cf_Mo_toPrecision_Mo_cut : zd_cf m_Mo_toPrecision m_Mo_cut 2 := ⟨(List.mem_of_getElem? (i := 1071) (by decide +kernel)), by decide +kernel, by decide, by decide, ⟨by decide, by decide⟩, by decide +kernel⟩
theorem cf_Mo_toPrecision_Mo_lengthen : zd_cf m_Mo_toPrecision m_Mo_lengthen 1 := ⟨(List.mem_of_getElem? (i := 1095) (by decide +kernel)), by decide +kernel, by decide, by decide, ⟨by decide, by decide⟩, by decide +kernel⟩
theorem cf_Mo_toPrecision_Mo_needed : zd_cf m_Mo_toPrecision m_Mo_needed 0 := ⟨(List.mem_of_getElem? (i := 1091) (by decide +kernel)), by decide +kernel, by decide, by decide, ⟨by decide, by decide⟩, by decide +kernel⟩
theorem cf_Mo_toPrecision_Mo_store : zd_cf m_Mo_toPrecision m_Mo_store 1 := ⟨(List.mem_of_getElem? (i := 983) (by decide +kernel)), by decide +kernel, by decide, by decide, ⟨by decide, by decide⟩, by decide +kernel⟩
theorem cf_Mo_toPrecision_Mo_trim : zd_cf m_Mo_toPrecision m_Mo_trim 0 := ⟨(List.mem_of_getElem? (i := 987) (by decide +kernel)), by decide +kernel, by decide, by decide, ⟨by decide, by decide⟩, by decide +kernel⟩
def dl_Mo_thrown : List (Nat × Instr × Nat) := [(0, .aload_n 0, 1), (1, .getfield 41, 3), (4, .ireturn, 1)]
theorem dc_Mo_thrown : ∀ q ∈ dl_Mo_thrown, decode (zd_yb m_Mo_thrown) q.1 = .ok q.2 := by decide +kernel
def cm_Mo_thrown (l : Launch) (B : zd_B) : List (Nat × zm_S) := [(0, om_p (oc_aload 0 1)), (1, om_getf gM 0 4), (4, om_iret)]
set_option maxRecDepth 20000 in
theorem okm_Mo_thrown {l : Launch} {B : zd_B} (hG : zd_G B) (hl : l.stackTraces = false) : ∀ q ∈ cm_Mo_thrown l B, zm_ok l B gM m_Mo_thrown q.1 q.2 := by
  unfold cm_Mo_thrown
  refine zm_ac (om_pk nt_aload (ok_aload_n (l := l) (B := B) (y := m_Mo_thrown) (pc := 0) (k := 0) rfl (zd_dr dc_Mo_thrown 0 rfl))) ?_
  refine zm_ac (ok_mgetf rfl (ok_getf (l := l) (B := B) (y := m_Mo_thrown) (pc := 1) hG (C := zR8) (T := zT8) (N := 21) (ci := 8) (k := 0) rfl zl8 (by decide) (List.mem_of_getElem? (i := 882) (by decide +kernel)) (zd_dr dc_Mo_thrown 1 rfl))) ?_
  refine zm_ac (ok_miret (ok_iret (l := l) (B := B) (y := m_Mo_thrown) (pc := 4) rfl (zd_dr dc_Mo_thrown 2 rfl))) ?_
  exact zm_an
def dl_Mo_no : List (Nat × Instr × Nat) := [(0, .iload_n 0, 1), (1, .ifCond .lt (9), 3), (4, .iload_n 0, 1), (5, .bipush (10), 2), (7, .if_icmp .lt (7), 3), (10, .iconst (1), 1), (11, .goto (4), 3), (14, .iconst (0), 1), (15, .ireturn, 1)]
theorem dc_Mo_no : ∀ q ∈ dl_Mo_no, decode (zd_yb m_Mo_no) q.1 = .ok q.2 := by decide +kernel
def cm_Mo_no (l : Launch) (B : zd_B) : List (Nat × zm_S) := [(0, om_p (oc_iload 0 1)), (1, om_p (oc_if_lt 10 4)), (4, om_p (oc_iload 0 5)), (5, om_p (oc_ci (10) 7)), (7, om_p (oc_icmp_lt 14 10)), (10, om_p (oc_ci (1) 11)), (11, om_p (oc_goto 15)), (14, om_p (oc_ci (0) 15)), (15, om_zret)]
set_option maxRecDepth 20000 in
theorem okm_Mo_no {l : Launch} {B : zd_B} (hG : zd_G B) (hl : l.stackTraces = false) : ∀ q ∈ cm_Mo_no l B, zm_ok l B gM m_Mo_no q.1 q.2 := by
  unfold cm_Mo_no
  refine zm_ac (om_pk nt_iload (ok_iload_n (l := l) (B := B) (y := m_Mo_no) (pc := 0) (k := 0) rfl (zd_dr dc_Mo_no 0 rfl))) ?_
  refine zm_ac (om_pk nt_if_lt (ok_if_lt (l := l) (B := B) (y := m_Mo_no) (pc := 1) (zd_dr dc_Mo_no 1 rfl) (by decide))) ?_
  refine zm_ac (om_pk nt_iload (ok_iload_n (l := l) (B := B) (y := m_Mo_no) (pc := 4) (k := 0) rfl (zd_dr dc_Mo_no 2 rfl))) ?_
  refine zm_ac (om_pk nt_ci (ok_bipush (l := l) (B := B) (y := m_Mo_no) (pc := 5) (n := (10)) (zd_dr dc_Mo_no 3 rfl) rfl)) ?_
  refine zm_ac (om_pk nt_icmp_lt (ok_icmp_lt (l := l) (B := B) (y := m_Mo_no) (pc := 7) (zd_dr dc_Mo_no 4 rfl) (by decide))) ?_
  refine zm_ac (om_pk nt_ci (ok_iconst (l := l) (B := B) (y := m_Mo_no) (pc := 10) (n := (1)) (zd_dr dc_Mo_no 5 rfl) rfl)) ?_
  refine zm_ac (om_pk nt_goto (ok_goto (l := l) (B := B) (y := m_Mo_no) (pc := 11) (zd_dr dc_Mo_no 6 rfl) (by decide))) ?_
  refine zm_ac (om_pk nt_ci (ok_iconst (l := l) (B := B) (y := m_Mo_no) (pc := 14) (n := (0)) (zd_dr dc_Mo_no 7 rfl) rfl)) ?_
  refine zm_ac (ok_mzret (ok_iret (l := l) (B := B) (y := m_Mo_no) (pc := 15) rfl (zd_dr dc_Mo_no 8 rfl))) ?_
  exact zm_an
def dl_Mo_noMode : List (Nat × Instr × Nat) := [(0, .iload_n 0, 1), (1, .ifCond .lt (9), 3), (4, .iload_n 0, 1), (5, .bipush (7), 2), (7, .if_icmp .le (7), 3), (10, .iconst (1), 1), (11, .goto (4), 3), (14, .iconst (0), 1), (15, .ireturn, 1)]
theorem dc_Mo_noMode : ∀ q ∈ dl_Mo_noMode, decode (zd_yb m_Mo_noMode) q.1 = .ok q.2 := by decide +kernel
def cm_Mo_noMode (l : Launch) (B : zd_B) : List (Nat × zm_S) := [(0, om_p (oc_iload 0 1)), (1, om_p (oc_if_lt 10 4)), (4, om_p (oc_iload 0 5)), (5, om_p (oc_ci (7) 7)), (7, om_p (oc_icmp_le 14 10)), (10, om_p (oc_ci (1) 11)), (11, om_p (oc_goto 15)), (14, om_p (oc_ci (0) 15)), (15, om_zret)]
set_option maxRecDepth 20000 in
theorem okm_Mo_noMode {l : Launch} {B : zd_B} (hG : zd_G B) (hl : l.stackTraces = false) : ∀ q ∈ cm_Mo_noMode l B, zm_ok l B gM m_Mo_noMode q.1 q.2 := by
  unfold cm_Mo_noMode
  refine zm_ac (om_pk nt_iload (ok_iload_n (l := l) (B := B) (y := m_Mo_noMode) (pc := 0) (k := 0) rfl (zd_dr dc_Mo_noMode 0 rfl))) ?_
  refine zm_ac (om_pk nt_if_lt (ok_if_lt (l := l) (B := B) (y := m_Mo_noMode) (pc := 1) (zd_dr dc_Mo_noMode 1 rfl) (by decide))) ?_
  refine zm_ac (om_pk nt_iload (ok_iload_n (l := l) (B := B) (y := m_Mo_noMode) (pc := 4) (k := 0) rfl (zd_dr dc_Mo_noMode 2 rfl))) ?_
  refine zm_ac (om_pk nt_ci (ok_bipush (l := l) (B := B) (y := m_Mo_noMode) (pc := 5) (n := (7)) (zd_dr dc_Mo_noMode 3 rfl) rfl)) ?_
  refine zm_ac (om_pk nt_icmp_le (ok_icmp_le (l := l) (B := B) (y := m_Mo_noMode) (pc := 7) (zd_dr dc_Mo_noMode 4 rfl) (by decide))) ?_
  refine zm_ac (om_pk nt_ci (ok_iconst (l := l) (B := B) (y := m_Mo_noMode) (pc := 10) (n := (1)) (zd_dr dc_Mo_noMode 5 rfl) rfl)) ?_
  refine zm_ac (om_pk nt_goto (ok_goto (l := l) (B := B) (y := m_Mo_noMode) (pc := 11) (zd_dr dc_Mo_noMode 6 rfl) (by decide))) ?_
  refine zm_ac (om_pk nt_ci (ok_iconst (l := l) (B := B) (y := m_Mo_noMode) (pc := 14) (n := (0)) (zd_dr dc_Mo_noMode 7 rfl) rfl)) ?_
  refine zm_ac (ok_mzret (ok_iret (l := l) (B := B) (y := m_Mo_noMode) (pc := 15) rfl (zd_dr dc_Mo_noMode 8 rfl))) ?_
  exact zm_an
def dl_Mo_isZero : List (Nat × Instr × Nat) := [(0, .aload_n 0, 1), (1, .getfield 13, 3), (4, .sipush (1000), 3), (7, .iload_n 1, 1), (8, .imul, 1), (9, .iaload, 1), (10, .ifCond .ne (7), 3), (13, .iconst (1), 1), (14, .goto (4), 3), (17, .iconst (0), 1), (18, .ireturn, 1)]
theorem dc_Mo_isZero : ∀ q ∈ dl_Mo_isZero, decode (zd_yb m_Mo_isZero) q.1 = .ok q.2 := by decide +kernel
def cm_Mo_isZero (l : Launch) (B : zd_B) : List (Nat × zm_S) := [(0, om_p (oc_aload 0 1)), (1, om_getf gM 3 4), (4, om_p (oc_ci (1000) 7)), (7, om_p (oc_iload 1 8)), (8, om_p (oc_imul 9)), (9, om_ald gM 0 10), (10, om_p (oc_if_ne 17 13)), (13, om_p (oc_ci (1) 14)), (14, om_p (oc_goto 18)), (17, om_p (oc_ci (0) 18)), (18, om_zret)]
set_option maxRecDepth 20000 in
theorem okm_Mo_isZero {l : Launch} {B : zd_B} (hG : zd_G B) (hl : l.stackTraces = false) : ∀ q ∈ cm_Mo_isZero l B, zm_ok l B gM m_Mo_isZero q.1 q.2 := by
  unfold cm_Mo_isZero
  refine zm_ac (om_pk nt_aload (ok_aload_n (l := l) (B := B) (y := m_Mo_isZero) (pc := 0) (k := 0) rfl (zd_dr dc_Mo_isZero 0 rfl))) ?_
  refine zm_ac (ok_mgetf rfl (ok_getf (l := l) (B := B) (y := m_Mo_isZero) (pc := 1) hG (C := zR8) (T := zT8) (N := 21) (ci := 8) (k := 3) rfl zl8 (by decide) (List.mem_of_getElem? (i := 885) (by decide +kernel)) (zd_dr dc_Mo_isZero 1 rfl))) ?_
  refine zm_ac (om_pk nt_ci (ok_sipush (l := l) (B := B) (y := m_Mo_isZero) (pc := 4) (n := (1000)) (zd_dr dc_Mo_isZero 2 rfl) rfl)) ?_
  refine zm_ac (om_pk nt_iload (ok_iload_n (l := l) (B := B) (y := m_Mo_isZero) (pc := 7) (k := 1) rfl (zd_dr dc_Mo_isZero 3 rfl))) ?_
  refine zm_ac (om_pk nt_imul (ok_imul (l := l) (B := B) (y := m_Mo_isZero) (pc := 8) (zd_dr dc_Mo_isZero 4 rfl))) ?_
  refine zm_ac (ok_miaload (ok_iaload (l := l) (B := B) (y := m_Mo_isZero) (pc := 9) hG (zd_dr dc_Mo_isZero 5 rfl))) ?_
  refine zm_ac (om_pk nt_if_ne (ok_if_ne (l := l) (B := B) (y := m_Mo_isZero) (pc := 10) (zd_dr dc_Mo_isZero 6 rfl) (by decide))) ?_
  refine zm_ac (om_pk nt_ci (ok_iconst (l := l) (B := B) (y := m_Mo_isZero) (pc := 13) (n := (1)) (zd_dr dc_Mo_isZero 7 rfl) rfl)) ?_
  refine zm_ac (om_pk nt_goto (ok_goto (l := l) (B := B) (y := m_Mo_isZero) (pc := 14) (zd_dr dc_Mo_isZero 8 rfl) (by decide))) ?_
  refine zm_ac (om_pk nt_ci (ok_iconst (l := l) (B := B) (y := m_Mo_isZero) (pc := 17) (n := (0)) (zd_dr dc_Mo_isZero 9 rfl) rfl)) ?_
  refine zm_ac (ok_mzret (ok_iret (l := l) (B := B) (y := m_Mo_isZero) (pc := 18) rfl (zd_dr dc_Mo_isZero 10 rfl))) ?_
  exact zm_an
def dl_Mo_load : List (Nat × Instr × Nat) := [(0, .aload_n 0, 1), (1, .aload_n 0, 1), (2, .getfield 16, 3), (5, .iload_n 1, 1), (6, .iaload, 1), (7, .putfield 45, 3), (10, .iconst (0), 1), (11, .istore_n 2, 1), (12, .iload_n 2, 1), (13, .aload_n 0, 1), (14, .getfield 45, 3), (17, .if_icmp .ge (27), 3), (20, .aload_n 0, 1), (21, .getfield 26, 3), (24, .iload_n 2, 1), (25, .aload_n 0, 1), (26, .getfield 13, 3), (29, .sipush (1000), 3), (32, .iload_n 1, 1), (33, .imul, 1), (34, .iload_n 2, 1), (35, .iadd, 1), (36, .iaload, 1), (37, .iastore, 1), (38, .iinc 2 (1), 3), (41, .goto (-29), 3), (44, .aload_n 0, 1), (45, .aload_n 0, 1), (46, .getfield 23, 3), (49, .iload_n 1, 1), (50, .iaload, 1), (51, .i2l, 1), (52, .putfield 48, 3), (55, .aload_n 0, 1), (56, .iconst (0), 1), (57, .putfield 52, 3), (60, .aload_n 0, 1), (61, .aload_n 0, 1), (62, .getfield 19, 3), (65, .iload_n 1, 1), (66, .baload, 1), (67, .putfield 56, 3), (70, .return_, 1)]
theorem dc_Mo_load : ∀ q ∈ dl_Mo_load, decode (zd_yb m_Mo_load) q.1 = .ok q.2 := by decide +kernel
def cm_Mo_load (l : Launch) (B : zd_B) : List (Nat × zm_S) := [(0, om_p (oc_aload 0 1)), (1, om_p (oc_aload 0 2)), (2, om_getf gM 4 5), (5, om_p (oc_iload 1 6)), (6, om_ald gM 0 7), (7, om_puti gM 8 10), (10, om_p (oc_ci (0) 11)), (11, om_p (oc_istore 2 12)), (12, om_p (oc_iload 2 13)), (13, om_p (oc_aload 0 14)), (14, om_getf gM 8 17), (17, om_p (oc_icmp_ge 44 20)), (20, om_p (oc_aload 0 21)), (21, om_getf gM 7 24), (24, om_p (oc_iload 2 25)), (25, om_p (oc_aload 0 26)), (26, om_getf gM 3 29), (29, om_p (oc_ci (1000) 32)), (32, om_p (oc_iload 1 33)), (33, om_p (oc_imul 34)), (34, om_p (oc_iload 2 35)), (35, om_p (oc_iadd 36)), (36, om_ald gM 0 37), (37, om_ast gM 0 cs_i 38), (38, om_p (oc_iinc 2 (1) 41)), (41, om_p (oc_goto 12)), (44, om_p (oc_aload 0 45)), (45, om_p (oc_aload 0 46)), (46, om_getf gM 6 49), (49, om_p (oc_iload 1 50)), (50, om_ald gM 0 51), (51, om_p (oc_i2l 52)), (52, om_putl gM 9 55), (55, om_p (oc_aload 0 56)), (56, om_p (oc_ci (0) 57)), (57, om_putb gM 10 60), (60, om_p (oc_aload 0 61)), (61, om_p (oc_aload 0 62)), (62, om_getf gM 5 65), (65, om_p (oc_iload 1 66)), (66, om_ald gM 2 67), (67, om_putb gM 11 70), (70, om_vret)]
set_option maxRecDepth 20000 in
theorem okm_Mo_load {l : Launch} {B : zd_B} (hG : zd_G B) (hl : l.stackTraces = false) : ∀ q ∈ cm_Mo_load l B, zm_ok l B gM m_Mo_load q.1 q.2 := by
  unfold cm_Mo_load
  refine zm_ac (om_pk nt_aload (ok_aload_n (l := l) (B := B) (y := m_Mo_load) (pc := 0) (k := 0) rfl (zd_dr dc_Mo_load 0 rfl))) ?_
  refine zm_ac (om_pk nt_aload (ok_aload_n (l := l) (B := B) (y := m_Mo_load) (pc := 1) (k := 0) rfl (zd_dr dc_Mo_load 1 rfl))) ?_
  refine zm_ac (ok_mgetf rfl (ok_getf (l := l) (B := B) (y := m_Mo_load) (pc := 2) hG (C := zR8) (T := zT8) (N := 21) (ci := 8) (k := 4) rfl zl8 (by decide) (List.mem_of_getElem? (i := 886) (by decide +kernel)) (zd_dr dc_Mo_load 2 rfl))) ?_
  refine zm_ac (om_pk nt_iload (ok_iload_n (l := l) (B := B) (y := m_Mo_load) (pc := 5) (k := 1) rfl (zd_dr dc_Mo_load 3 rfl))) ?_
  refine zm_ac (ok_miaload (ok_iaload (l := l) (B := B) (y := m_Mo_load) (pc := 6) hG (zd_dr dc_Mo_load 4 rfl))) ?_
  refine zm_ac (ok_mputi rfl (ok_putf (l := l) (B := B) (y := m_Mo_load) (pc := 7) hG (C := zR8) (T := zT8) (N := 21) (ci := 8) (k := 8) rfl zl8 zt8 (by decide) (List.mem_of_getElem? (i := 890) (by decide +kernel)) rfl (zd_dr dc_Mo_load 5 rfl))) ?_
  refine zm_ac (om_pk nt_ci (ok_iconst (l := l) (B := B) (y := m_Mo_load) (pc := 10) (n := (0)) (zd_dr dc_Mo_load 6 rfl) rfl)) ?_
  refine zm_ac (om_pk nt_istore (ok_istore_n (l := l) (B := B) (y := m_Mo_load) (pc := 11) (k := 2) rfl (zd_dr dc_Mo_load 7 rfl) (by decide))) ?_
  refine zm_ac (om_pk nt_iload (ok_iload_n (l := l) (B := B) (y := m_Mo_load) (pc := 12) (k := 2) rfl (zd_dr dc_Mo_load 8 rfl))) ?_
  refine zm_ac (om_pk nt_aload (ok_aload_n (l := l) (B := B) (y := m_Mo_load) (pc := 13) (k := 0) rfl (zd_dr dc_Mo_load 9 rfl))) ?_
  refine zm_ac (ok_mgetf rfl (ok_getf (l := l) (B := B) (y := m_Mo_load) (pc := 14) hG (C := zR8) (T := zT8) (N := 21) (ci := 8) (k := 8) rfl zl8 (by decide) (List.mem_of_getElem? (i := 890) (by decide +kernel)) (zd_dr dc_Mo_load 10 rfl))) ?_
  refine zm_ac (om_pk nt_icmp_ge (ok_icmp_ge (l := l) (B := B) (y := m_Mo_load) (pc := 17) (zd_dr dc_Mo_load 11 rfl) (by decide))) ?_
  refine zm_ac (om_pk nt_aload (ok_aload_n (l := l) (B := B) (y := m_Mo_load) (pc := 20) (k := 0) rfl (zd_dr dc_Mo_load 12 rfl))) ?_
  refine zm_ac (ok_mgetf rfl (ok_getf (l := l) (B := B) (y := m_Mo_load) (pc := 21) hG (C := zR8) (T := zT8) (N := 21) (ci := 8) (k := 7) rfl zl8 (by decide) (List.mem_of_getElem? (i := 889) (by decide +kernel)) (zd_dr dc_Mo_load 13 rfl))) ?_
  refine zm_ac (om_pk nt_iload (ok_iload_n (l := l) (B := B) (y := m_Mo_load) (pc := 24) (k := 2) rfl (zd_dr dc_Mo_load 14 rfl))) ?_
  refine zm_ac (om_pk nt_aload (ok_aload_n (l := l) (B := B) (y := m_Mo_load) (pc := 25) (k := 0) rfl (zd_dr dc_Mo_load 15 rfl))) ?_
  refine zm_ac (ok_mgetf rfl (ok_getf (l := l) (B := B) (y := m_Mo_load) (pc := 26) hG (C := zR8) (T := zT8) (N := 21) (ci := 8) (k := 3) rfl zl8 (by decide) (List.mem_of_getElem? (i := 885) (by decide +kernel)) (zd_dr dc_Mo_load 16 rfl))) ?_
  refine zm_ac (om_pk nt_ci (ok_sipush (l := l) (B := B) (y := m_Mo_load) (pc := 29) (n := (1000)) (zd_dr dc_Mo_load 17 rfl) rfl)) ?_
  refine zm_ac (om_pk nt_iload (ok_iload_n (l := l) (B := B) (y := m_Mo_load) (pc := 32) (k := 1) rfl (zd_dr dc_Mo_load 18 rfl))) ?_
  refine zm_ac (om_pk nt_imul (ok_imul (l := l) (B := B) (y := m_Mo_load) (pc := 33) (zd_dr dc_Mo_load 19 rfl))) ?_
  refine zm_ac (om_pk nt_iload (ok_iload_n (l := l) (B := B) (y := m_Mo_load) (pc := 34) (k := 2) rfl (zd_dr dc_Mo_load 20 rfl))) ?_
  refine zm_ac (om_pk nt_iadd (ok_iadd (l := l) (B := B) (y := m_Mo_load) (pc := 35) (zd_dr dc_Mo_load 21 rfl))) ?_
  refine zm_ac (ok_miaload (ok_iaload (l := l) (B := B) (y := m_Mo_load) (pc := 36) hG (zd_dr dc_Mo_load 22 rfl))) ?_
  refine zm_ac (ok_miastore (ok_iastore (l := l) (B := B) (y := m_Mo_load) (pc := 37) hG (zd_dr dc_Mo_load 23 rfl))) ?_
  refine zm_ac (om_pk nt_iinc (ok_iinc (l := l) (B := B) (y := m_Mo_load) (pc := 38) (zd_dr dc_Mo_load 24 rfl) (by decide) rfl)) ?_
  refine zm_ac (om_pk nt_goto (ok_goto (l := l) (B := B) (y := m_Mo_load) (pc := 41) (zd_dr dc_Mo_load 25 rfl) (by decide))) ?_
  refine zm_ac (om_pk nt_aload (ok_aload_n (l := l) (B := B) (y := m_Mo_load) (pc := 44) (k := 0) rfl (zd_dr dc_Mo_load 26 rfl))) ?_
  refine zm_ac (om_pk nt_aload (ok_aload_n (l := l) (B := B) (y := m_Mo_load) (pc := 45) (k := 0) rfl (zd_dr dc_Mo_load 27 rfl))) ?_
  refine zm_ac (ok_mgetf rfl (ok_getf (l := l) (B := B) (y := m_Mo_load) (pc := 46) hG (C := zR8) (T := zT8) (N := 21) (ci := 8) (k := 6) rfl zl8 (by decide) (List.mem_of_getElem? (i := 888) (by decide +kernel)) (zd_dr dc_Mo_load 28 rfl))) ?_
  refine zm_ac (om_pk nt_iload (ok_iload_n (l := l) (B := B) (y := m_Mo_load) (pc := 49) (k := 1) rfl (zd_dr dc_Mo_load 29 rfl))) ?_
  refine zm_ac (ok_miaload (ok_iaload (l := l) (B := B) (y := m_Mo_load) (pc := 50) hG (zd_dr dc_Mo_load 30 rfl))) ?_
  refine zm_ac (om_pk nt_i2l (ok_i2l (l := l) (B := B) (y := m_Mo_load) (pc := 51) (zd_dr dc_Mo_load 31 rfl))) ?_
  refine zm_ac (ok_mputl rfl (ok_putf (l := l) (B := B) (y := m_Mo_load) (pc := 52) hG (C := zR8) (T := zT8) (N := 21) (ci := 8) (k := 9) rfl zl8 zt8 (by decide) (List.mem_of_getElem? (i := 891) (by decide +kernel)) rfl (zd_dr dc_Mo_load 32 rfl))) ?_
  refine zm_ac (om_pk nt_aload (ok_aload_n (l := l) (B := B) (y := m_Mo_load) (pc := 55) (k := 0) rfl (zd_dr dc_Mo_load 33 rfl))) ?_
  refine zm_ac (om_pk nt_ci (ok_iconst (l := l) (B := B) (y := m_Mo_load) (pc := 56) (n := (0)) (zd_dr dc_Mo_load 34 rfl) rfl)) ?_
  refine zm_ac (ok_mputb rfl (ok_putf (l := l) (B := B) (y := m_Mo_load) (pc := 57) hG (C := zR8) (T := zT8) (N := 21) (ci := 8) (k := 10) rfl zl8 zt8 (by decide) (List.mem_of_getElem? (i := 892) (by decide +kernel)) rfl (zd_dr dc_Mo_load 35 rfl))) ?_
  refine zm_ac (om_pk nt_aload (ok_aload_n (l := l) (B := B) (y := m_Mo_load) (pc := 60) (k := 0) rfl (zd_dr dc_Mo_load 36 rfl))) ?_
  refine zm_ac (om_pk nt_aload (ok_aload_n (l := l) (B := B) (y := m_Mo_load) (pc := 61) (k := 0) rfl (zd_dr dc_Mo_load 37 rfl))) ?_
  refine zm_ac (ok_mgetf rfl (ok_getf (l := l) (B := B) (y := m_Mo_load) (pc := 62) hG (C := zR8) (T := zT8) (N := 21) (ci := 8) (k := 5) rfl zl8 (by decide) (List.mem_of_getElem? (i := 887) (by decide +kernel)) (zd_dr dc_Mo_load 38 rfl))) ?_
  refine zm_ac (om_pk nt_iload (ok_iload_n (l := l) (B := B) (y := m_Mo_load) (pc := 65) (k := 1) rfl (zd_dr dc_Mo_load 39 rfl))) ?_
  refine zm_ac (ok_mbaload (ok_baload (l := l) (B := B) (y := m_Mo_load) (pc := 66) hG (zd_dr dc_Mo_load 40 rfl))) ?_
  refine zm_ac (ok_mputb rfl (ok_putf (l := l) (B := B) (y := m_Mo_load) (pc := 67) hG (C := zR8) (T := zT8) (N := 21) (ci := 8) (k := 11) rfl zl8 zt8 (by decide) (List.mem_of_getElem? (i := 893) (by decide +kernel)) rfl (zd_dr dc_Mo_load 41 rfl))) ?_
  refine zm_ac (ok_mvret (ok_vret (l := l) (B := B) (y := m_Mo_load) (pc := 70) rfl (zd_dr dc_Mo_load 42 rfl))) ?_
  exact zm_an
def dl_Mo_trim : List (Nat × Instr × Nat) := [(0, .iconst (0), 1), (1, .istore_n 1, 1), (2, .iload_n 1, 1), (3, .iconst (1), 1), (4, .iadd, 1), (5, .aload_n 0, 1), (6, .getfield 45, 3), (9, .if_icmp .ge (18), 3), (12, .aload_n 0, 1), (13, .getfield 26, 3), (16, .iload_n 1, 1), (17, .iaload, 1), (18, .ifCond .ne (9), 3), (21, .iinc 1 (1), 3), (24, .goto (-22), 3), (27, .iconst (0), 1), (28, .istore_n 2, 1), (29, .iload_n 2, 1), (30, .iload_n 1, 1), (31, .iadd, 1), (32, .aload_n 0, 1), (33, .getfield 45, 3), (36, .if_icmp .ge (23), 3), (39, .aload_n 0, 1), (40, .getfield 26, 3), (43, .iload_n 2, 1), (44, .aload_n 0, 1), (45, .getfield 26, 3), (48, .iload_n 2, 1), (49, .iload_n 1, 1), (50, .iadd, 1), (51, .iaload, 1), (52, .iastore, 1), (53, .iinc 2 (1), 3), (56, .goto (-27), 3), (59, .aload_n 0, 1), (60, .getfield 45, 3), (63, .ifCond .ne (18), 3), (66, .aload_n 0, 1), (67, .getfield 26, 3), (70, .iconst (0), 1), (71, .iconst (0), 1), (72, .iastore, 1), (73, .aload_n 0, 1), (74, .iconst (1), 1), (75, .putfield 45, 3), (78, .goto (13), 3), (81, .aload_n 0, 1), (82, .aload_n 0, 1), (83, .getfield 45, 3), (86, .iload_n 1, 1), (87, .isub, 1), (88, .putfield 45, 3), (91, .aload_n 0, 1), (92, .aload_n 0, 1), (93, .getfield 56, 3), (96, .ifCond .eq (16), 3), (99, .aload_n 0, 1), (100, .getfield 26, 3), (103, .iconst (0), 1), (104, .iaload, 1), (105, .ifCond .eq (7), 3), (108, .iconst (1), 1), (109, .goto (4), 3), (112, .iconst (0), 1), (113, .putfield 56, 3), (116, .return_, 1)]
theorem dc_Mo_trim : ∀ q ∈ dl_Mo_trim, decode (zd_yb m_Mo_trim) q.1 = .ok q.2 := by decide +kernel
def cm_Mo_trim (l : Launch) (B : zd_B) : List (Nat × zm_S) := [(0, om_p (oc_ci (0) 1)), (1, om_p (oc_istore 1 2)), (2, om_p (oc_iload 1 3)), (3, om_p (oc_ci (1) 4)), (4, om_p (oc_iadd 5)), (5, om_p (oc_aload 0 6)), (6, om_getf gM 8 9), (9, om_p (oc_icmp_ge 27 12)), (12, om_p (oc_aload 0 13)), (13, om_getf gM 7 16), (16, om_p (oc_iload 1 17)), (17, om_ald gM 0 18), (18, om_p (oc_if_ne 27 21)), (21, om_p (oc_iinc 1 (1) 24)), (24, om_p (oc_goto 2)), (27, om_p (oc_ci (0) 28)), (28, om_p (oc_istore 2 29)), (29, om_p (oc_iload 2 30)), (30, om_p (oc_iload 1 31)), (31, om_p (oc_iadd 32)), (32, om_p (oc_aload 0 33)), (33, om_getf gM 8 36), (36, om_p (oc_icmp_ge 59 39)), (39, om_p (oc_aload 0 40)), (40, om_getf gM 7 43), (43, om_p (oc_iload 2 44)), (44, om_p (oc_aload 0 45)), (45, om_getf gM 7 48), (48, om_p (oc_iload 2 49)), (49, om_p (oc_iload 1 50)), (50, om_p (oc_iadd 51)), (51, om_ald gM 0 52), (52, om_ast gM 0 cs_i 53), (53, om_p (oc_iinc 2 (1) 56)), (56, om_p (oc_goto 29)), (59, om_p (oc_aload 0 60)), (60, om_getf gM 8 63), (63, om_p (oc_if_ne 81 66)), (66, om_p (oc_aload 0 67)), (67, om_getf gM 7 70), (70, om_p (oc_ci (0) 71)), (71, om_p (oc_ci (0) 72)), (72, om_ast gM 0 cs_i 73), (73, om_p (oc_aload 0 74)), (74, om_p (oc_ci (1) 75)), (75, om_puti gM 8 78), (78, om_p (oc_goto 91)), (81, om_p (oc_aload 0 82)), (82, om_p (oc_aload 0 83)), (83, om_getf gM 8 86), (86, om_p (oc_iload 1 87)), (87, om_p (oc_isub 88)), (88, om_puti gM 8 91), (91, om_p (oc_aload 0 92)), (92, om_p (oc_aload 0 93)), (93, om_getf gM 11 96), (96, om_p (oc_if_eq 112 99)), (99, om_p (oc_aload 0 100)), (100, om_getf gM 7 103), (103, om_p (oc_ci (0) 104)), (104, om_ald gM 0 105), (105, om_p (oc_if_eq 112 108)), (108, om_p (oc_ci (1) 109)), (109, om_p (oc_goto 113)), (112, om_p (oc_ci (0) 113)), (113, om_putb gM 11 116), (116, om_vret)]
set_option maxRecDepth 20000 in
theorem okm_Mo_trim {l : Launch} {B : zd_B} (hG : zd_G B) (hl : l.stackTraces = false) : ∀ q ∈ cm_Mo_trim l B, zm_ok l B gM m_Mo_trim q.1 q.2 := by
  unfold cm_Mo_trim
  refine zm_ac (om_pk nt_ci (ok_iconst (l := l) (B := B) (y := m_Mo_trim) (pc := 0) (n := (0)) (zd_dr dc_Mo_trim 0 rfl) rfl)) ?_
  refine zm_ac (om_pk nt_istore (ok_istore_n (l := l) (B := B) (y := m_Mo_trim) (pc := 1) (k := 1) rfl (zd_dr dc_Mo_trim 1 rfl) (by decide))) ?_
  refine zm_ac (om_pk nt_iload (ok_iload_n (l := l) (B := B) (y := m_Mo_trim) (pc := 2) (k := 1) rfl (zd_dr dc_Mo_trim 2 rfl))) ?_
  refine zm_ac (om_pk nt_ci (ok_iconst (l := l) (B := B) (y := m_Mo_trim) (pc := 3) (n := (1)) (zd_dr dc_Mo_trim 3 rfl) rfl)) ?_
  refine zm_ac (om_pk nt_iadd (ok_iadd (l := l) (B := B) (y := m_Mo_trim) (pc := 4) (zd_dr dc_Mo_trim 4 rfl))) ?_
  refine zm_ac (om_pk nt_aload (ok_aload_n (l := l) (B := B) (y := m_Mo_trim) (pc := 5) (k := 0) rfl (zd_dr dc_Mo_trim 5 rfl))) ?_
  refine zm_ac (ok_mgetf rfl (ok_getf (l := l) (B := B) (y := m_Mo_trim) (pc := 6) hG (C := zR8) (T := zT8) (N := 21) (ci := 8) (k := 8) rfl zl8 (by decide) (List.mem_of_getElem? (i := 890) (by decide +kernel)) (zd_dr dc_Mo_trim 6 rfl))) ?_
  refine zm_ac (om_pk nt_icmp_ge (ok_icmp_ge (l := l) (B := B) (y := m_Mo_trim) (pc := 9) (zd_dr dc_Mo_trim 7 rfl) (by decide))) ?_
  refine zm_ac (om_pk nt_aload (ok_aload_n (l := l) (B := B) (y := m_Mo_trim) (pc := 12) (k := 0) rfl (zd_dr dc_Mo_trim 8 rfl))) ?_
  refine zm_ac (ok_mgetf rfl (ok_getf (l := l) (B := B) (y := m_Mo_trim) (pc := 13) hG (C := zR8) (T := zT8) (N := 21) (ci := 8) (k := 7) rfl zl8 (by decide) (List.mem_of_getElem? (i := 889) (by decide +kernel)) (zd_dr dc_Mo_trim 9 rfl))) ?_
  refine zm_ac (om_pk nt_iload (ok_iload_n (l := l) (B := B) (y := m_Mo_trim) (pc := 16) (k := 1) rfl (zd_dr dc_Mo_trim 10 rfl))) ?_
  refine zm_ac (ok_miaload (ok_iaload (l := l) (B := B) (y := m_Mo_trim) (pc := 17) hG (zd_dr dc_Mo_trim 11 rfl))) ?_
  refine zm_ac (om_pk nt_if_ne (ok_if_ne (l := l) (B := B) (y := m_Mo_trim) (pc := 18) (zd_dr dc_Mo_trim 12 rfl) (by decide))) ?_
  refine zm_ac (om_pk nt_iinc (ok_iinc (l := l) (B := B) (y := m_Mo_trim) (pc := 21) (zd_dr dc_Mo_trim 13 rfl) (by decide) rfl)) ?_
  refine zm_ac (om_pk nt_goto (ok_goto (l := l) (B := B) (y := m_Mo_trim) (pc := 24) (zd_dr dc_Mo_trim 14 rfl) (by decide))) ?_
  refine zm_ac (om_pk nt_ci (ok_iconst (l := l) (B := B) (y := m_Mo_trim) (pc := 27) (n := (0)) (zd_dr dc_Mo_trim 15 rfl) rfl)) ?_
  refine zm_ac (om_pk nt_istore (ok_istore_n (l := l) (B := B) (y := m_Mo_trim) (pc := 28) (k := 2) rfl (zd_dr dc_Mo_trim 16 rfl) (by decide))) ?_
  refine zm_ac (om_pk nt_iload (ok_iload_n (l := l) (B := B) (y := m_Mo_trim) (pc := 29) (k := 2) rfl (zd_dr dc_Mo_trim 17 rfl))) ?_
  refine zm_ac (om_pk nt_iload (ok_iload_n (l := l) (B := B) (y := m_Mo_trim) (pc := 30) (k := 1) rfl (zd_dr dc_Mo_trim 18 rfl))) ?_
  refine zm_ac (om_pk nt_iadd (ok_iadd (l := l) (B := B) (y := m_Mo_trim) (pc := 31) (zd_dr dc_Mo_trim 19 rfl))) ?_
  refine zm_ac (om_pk nt_aload (ok_aload_n (l := l) (B := B) (y := m_Mo_trim) (pc := 32) (k := 0) rfl (zd_dr dc_Mo_trim 20 rfl))) ?_
  refine zm_ac (ok_mgetf rfl (ok_getf (l := l) (B := B) (y := m_Mo_trim) (pc := 33) hG (C := zR8) (T := zT8) (N := 21) (ci := 8) (k := 8) rfl zl8 (by decide) (List.mem_of_getElem? (i := 890) (by decide +kernel)) (zd_dr dc_Mo_trim 21 rfl))) ?_
  refine zm_ac (om_pk nt_icmp_ge (ok_icmp_ge (l := l) (B := B) (y := m_Mo_trim) (pc := 36) (zd_dr dc_Mo_trim 22 rfl) (by decide))) ?_
  refine zm_ac (om_pk nt_aload (ok_aload_n (l := l) (B := B) (y := m_Mo_trim) (pc := 39) (k := 0) rfl (zd_dr dc_Mo_trim 23 rfl))) ?_
  refine zm_ac (ok_mgetf rfl (ok_getf (l := l) (B := B) (y := m_Mo_trim) (pc := 40) hG (C := zR8) (T := zT8) (N := 21) (ci := 8) (k := 7) rfl zl8 (by decide) (List.mem_of_getElem? (i := 889) (by decide +kernel)) (zd_dr dc_Mo_trim 24 rfl))) ?_
  refine zm_ac (om_pk nt_iload (ok_iload_n (l := l) (B := B) (y := m_Mo_trim) (pc := 43) (k := 2) rfl (zd_dr dc_Mo_trim 25 rfl))) ?_
  refine zm_ac (om_pk nt_aload (ok_aload_n (l := l) (B := B) (y := m_Mo_trim) (pc := 44) (k := 0) rfl (zd_dr dc_Mo_trim 26 rfl))) ?_
  refine zm_ac (ok_mgetf rfl (ok_getf (l := l) (B := B) (y := m_Mo_trim) (pc := 45) hG (C := zR8) (T := zT8) (N := 21) (ci := 8) (k := 7) rfl zl8 (by decide) (List.mem_of_getElem? (i := 889) (by decide +kernel)) (zd_dr dc_Mo_trim 27 rfl))) ?_
  refine zm_ac (om_pk nt_iload (ok_iload_n (l := l) (B := B) (y := m_Mo_trim) (pc := 48) (k := 2) rfl (zd_dr dc_Mo_trim 28 rfl))) ?_
  refine zm_ac (om_pk nt_iload (ok_iload_n (l := l) (B := B) (y := m_Mo_trim) (pc := 49) (k := 1) rfl (zd_dr dc_Mo_trim 29 rfl))) ?_
  refine zm_ac (om_pk nt_iadd (ok_iadd (l := l) (B := B) (y := m_Mo_trim) (pc := 50) (zd_dr dc_Mo_trim 30 rfl))) ?_
  refine zm_ac (ok_miaload (ok_iaload (l := l) (B := B) (y := m_Mo_trim) (pc := 51) hG (zd_dr dc_Mo_trim 31 rfl))) ?_
  refine zm_ac (ok_miastore (ok_iastore (l := l) (B := B) (y := m_Mo_trim) (pc := 52) hG (zd_dr dc_Mo_trim 32 rfl))) ?_
  refine zm_ac (om_pk nt_iinc (ok_iinc (l := l) (B := B) (y := m_Mo_trim) (pc := 53) (zd_dr dc_Mo_trim 33 rfl) (by decide) rfl)) ?_
  refine zm_ac (om_pk nt_goto (ok_goto (l := l) (B := B) (y := m_Mo_trim) (pc := 56) (zd_dr dc_Mo_trim 34 rfl) (by decide))) ?_
  refine zm_ac (om_pk nt_aload (ok_aload_n (l := l) (B := B) (y := m_Mo_trim) (pc := 59) (k := 0) rfl (zd_dr dc_Mo_trim 35 rfl))) ?_
  refine zm_ac (ok_mgetf rfl (ok_getf (l := l) (B := B) (y := m_Mo_trim) (pc := 60) hG (C := zR8) (T := zT8) (N := 21) (ci := 8) (k := 8) rfl zl8 (by decide) (List.mem_of_getElem? (i := 890) (by decide +kernel)) (zd_dr dc_Mo_trim 36 rfl))) ?_
  refine zm_ac (om_pk nt_if_ne (ok_if_ne (l := l) (B := B) (y := m_Mo_trim) (pc := 63) (zd_dr dc_Mo_trim 37 rfl) (by decide))) ?_
  refine zm_ac (om_pk nt_aload (ok_aload_n (l := l) (B := B) (y := m_Mo_trim) (pc := 66) (k := 0) rfl (zd_dr dc_Mo_trim 38 rfl))) ?_
  refine zm_ac (ok_mgetf rfl (ok_getf (l := l) (B := B) (y := m_Mo_trim) (pc := 67) hG (C := zR8) (T := zT8) (N := 21) (ci := 8) (k := 7) rfl zl8 (by decide) (List.mem_of_getElem? (i := 889) (by decide +kernel)) (zd_dr dc_Mo_trim 39 rfl))) ?_
  refine zm_ac (om_pk nt_ci (ok_iconst (l := l) (B := B) (y := m_Mo_trim) (pc := 70) (n := (0)) (zd_dr dc_Mo_trim 40 rfl) rfl)) ?_
  refine zm_ac (om_pk nt_ci (ok_iconst (l := l) (B := B) (y := m_Mo_trim) (pc := 71) (n := (0)) (zd_dr dc_Mo_trim 41 rfl) rfl)) ?_
  refine zm_ac (ok_miastore (ok_iastore (l := l) (B := B) (y := m_Mo_trim) (pc := 72) hG (zd_dr dc_Mo_trim 42 rfl))) ?_
  refine zm_ac (om_pk nt_aload (ok_aload_n (l := l) (B := B) (y := m_Mo_trim) (pc := 73) (k := 0) rfl (zd_dr dc_Mo_trim 43 rfl))) ?_
  refine zm_ac (om_pk nt_ci (ok_iconst (l := l) (B := B) (y := m_Mo_trim) (pc := 74) (n := (1)) (zd_dr dc_Mo_trim 44 rfl) rfl)) ?_
  refine zm_ac (ok_mputi rfl (ok_putf (l := l) (B := B) (y := m_Mo_trim) (pc := 75) hG (C := zR8) (T := zT8) (N := 21) (ci := 8) (k := 8) rfl zl8 zt8 (by decide) (List.mem_of_getElem? (i := 890) (by decide +kernel)) rfl (zd_dr dc_Mo_trim 45 rfl))) ?_
  refine zm_ac (om_pk nt_goto (ok_goto (l := l) (B := B) (y := m_Mo_trim) (pc := 78) (zd_dr dc_Mo_trim 46 rfl) (by decide))) ?_
  refine zm_ac (om_pk nt_aload (ok_aload_n (l := l) (B := B) (y := m_Mo_trim) (pc := 81) (k := 0) rfl (zd_dr dc_Mo_trim 47 rfl))) ?_
  refine zm_ac (om_pk nt_aload (ok_aload_n (l := l) (B := B) (y := m_Mo_trim) (pc := 82) (k := 0) rfl (zd_dr dc_Mo_trim 48 rfl))) ?_
  refine zm_ac (ok_mgetf rfl (ok_getf (l := l) (B := B) (y := m_Mo_trim) (pc := 83) hG (C := zR8) (T := zT8) (N := 21) (ci := 8) (k := 8) rfl zl8 (by decide) (List.mem_of_getElem? (i := 890) (by decide +kernel)) (zd_dr dc_Mo_trim 49 rfl))) ?_
  refine zm_ac (om_pk nt_iload (ok_iload_n (l := l) (B := B) (y := m_Mo_trim) (pc := 86) (k := 1) rfl (zd_dr dc_Mo_trim 50 rfl))) ?_
  refine zm_ac (om_pk nt_isub (ok_isub (l := l) (B := B) (y := m_Mo_trim) (pc := 87) (zd_dr dc_Mo_trim 51 rfl))) ?_
  refine zm_ac (ok_mputi rfl (ok_putf (l := l) (B := B) (y := m_Mo_trim) (pc := 88) hG (C := zR8) (T := zT8) (N := 21) (ci := 8) (k := 8) rfl zl8 zt8 (by decide) (List.mem_of_getElem? (i := 890) (by decide +kernel)) rfl (zd_dr dc_Mo_trim 52 rfl))) ?_
  refine zm_ac (om_pk nt_aload (ok_aload_n (l := l) (B := B) (y := m_Mo_trim) (pc := 91) (k := 0) rfl (zd_dr dc_Mo_trim 53 rfl))) ?_
  refine zm_ac (om_pk nt_aload (ok_aload_n (l := l) (B := B) (y := m_Mo_trim) (pc := 92) (k := 0) rfl (zd_dr dc_Mo_trim 54 rfl))) ?_
  refine zm_ac (ok_mgetf rfl (ok_getf (l := l) (B := B) (y := m_Mo_trim) (pc := 93) hG (C := zR8) (T := zT8) (N := 21) (ci := 8) (k := 11) rfl zl8 (by decide) (List.mem_of_getElem? (i := 893) (by decide +kernel)) (zd_dr dc_Mo_trim 55 rfl))) ?_
  refine zm_ac (om_pk nt_if_eq (ok_if_eq (l := l) (B := B) (y := m_Mo_trim) (pc := 96) (zd_dr dc_Mo_trim 56 rfl) (by decide))) ?_
  refine zm_ac (om_pk nt_aload (ok_aload_n (l := l) (B := B) (y := m_Mo_trim) (pc := 99) (k := 0) rfl (zd_dr dc_Mo_trim 57 rfl))) ?_
  refine zm_ac (ok_mgetf rfl (ok_getf (l := l) (B := B) (y := m_Mo_trim) (pc := 100) hG (C := zR8) (T := zT8) (N := 21) (ci := 8) (k := 7) rfl zl8 (by decide) (List.mem_of_getElem? (i := 889) (by decide +kernel)) (zd_dr dc_Mo_trim 58 rfl))) ?_
  refine zm_ac (om_pk nt_ci (ok_iconst (l := l) (B := B) (y := m_Mo_trim) (pc := 103) (n := (0)) (zd_dr dc_Mo_trim 59 rfl) rfl)) ?_
  refine zm_ac (ok_miaload (ok_iaload (l := l) (B := B) (y := m_Mo_trim) (pc := 104) hG (zd_dr dc_Mo_trim 60 rfl))) ?_
  refine zm_ac (om_pk nt_if_eq (ok_if_eq (l := l) (B := B) (y := m_Mo_trim) (pc := 105) (zd_dr dc_Mo_trim 61 rfl) (by decide))) ?_
  refine zm_ac (om_pk nt_ci (ok_iconst (l := l) (B := B) (y := m_Mo_trim) (pc := 108) (n := (1)) (zd_dr dc_Mo_trim 62 rfl) rfl)) ?_
  refine zm_ac (om_pk nt_goto (ok_goto (l := l) (B := B) (y := m_Mo_trim) (pc := 109) (zd_dr dc_Mo_trim 63 rfl) (by decide))) ?_
  refine zm_ac (om_pk nt_ci (ok_iconst (l := l) (B := B) (y := m_Mo_trim) (pc := 112) (n := (0)) (zd_dr dc_Mo_trim 64 rfl) rfl)) ?_
  refine zm_ac (ok_mputb rfl (ok_putf (l := l) (B := B) (y := m_Mo_trim) (pc := 113) hG (C := zR8) (T := zT8) (N := 21) (ci := 8) (k := 11) rfl zl8 zt8 (by decide) (List.mem_of_getElem? (i := 893) (by decide +kernel)) rfl (zd_dr dc_Mo_trim 65 rfl))) ?_
  refine zm_ac (ok_mvret (ok_vret (l := l) (B := B) (y := m_Mo_trim) (pc := 116) rfl (zd_dr dc_Mo_trim 66 rfl))) ?_
  exact zm_an
def dl_Mo_store : List (Nat × Instr × Nat) := [(0, .aload_n 0, 1), (1, .invokevirtual 59, 3), (4, .aload_n 0, 1), (5, .getfield 45, 3), (8, .sipush (1000), 3), (11, .if_icmp .gt (25), 3), (14, .aload_n 0, 1), (15, .getfield 48, 3), (18, .ldc2_w 62, 3), (21, .lcmp, 1), (22, .ifCond .lt (14), 3), (25, .aload_n 0, 1), (26, .getfield 48, 3), (29, .ldc2_w 64, 3), (32, .lcmp, 1), (33, .ifCond .le (12), 3), (36, .aload_n 0, 1), (37, .aload_n 0, 1), (38, .getfield 66, 3), (41, .putfield 41, 3), (44, .return_, 1), (45, .iconst (0), 1), (46, .istore_n 2, 1), (47, .iload_n 2, 1), (48, .aload_n 0, 1), (49, .getfield 45, 3), (52, .if_icmp .ge (27), 3), (55, .aload_n 0, 1), (56, .getfield 13, 3), (59, .sipush (1000), 3), (62, .iload_n 1, 1), (63, .imul, 1), (64, .iload_n 2, 1), (65, .iadd, 1), (66, .aload_n 0, 1), (67, .getfield 26, 3), (70, .iload_n 2, 1), (71, .iaload, 1), (72, .iastore, 1), (73, .iinc 2 (1), 3), (76, .goto (-29), 3), (79, .aload_n 0, 1), (80, .getfield 16, 3), (83, .iload_n 1, 1), (84, .aload_n 0, 1), (85, .getfield 45, 3), (88, .iastore, 1), (89, .aload_n 0, 1), (90, .getfield 19, 3), (93, .iload_n 1, 1), (94, .aload_n 0, 1), (95, .getfield 56, 3), (98, .bastore, 1), (99, .aload_n 0, 1), (100, .getfield 23, 3), (103, .iload_n 1, 1), (104, .aload_n 0, 1), (105, .getfield 48, 3), (108, .l2i, 1), (109, .iastore, 1), (110, .return_, 1)]
theorem dc_Mo_store : ∀ q ∈ dl_Mo_store, decode (zd_yb m_Mo_store) q.1 = .ok q.2 := by decide +kernel
def cm_Mo_store (l : Launch) (B : zd_B) : List (Nat × zm_S) := [(0, om_p (oc_aload 0 1)), (1, om_callv l B gM m_Mo_trim 0 4), (4, om_p (oc_aload 0 5)), (5, om_getf gM 8 8), (8, om_p (oc_ci (1000) 11)), (11, om_p (oc_icmp_gt 36 14)), (14, om_p (oc_aload 0 15)), (15, om_getf gM 9 18), (18, om_p (oc_cl (-10000) 21)), (21, om_p (oc_lcmp 22)), (22, om_p (oc_if_lt 36 25)), (25, om_p (oc_aload 0 26)), (26, om_getf gM 9 29), (29, om_p (oc_cl (10000) 32)), (32, om_p (oc_lcmp 33)), (33, om_p (oc_if_le 45 36)), (36, om_p (oc_aload 0 37)), (37, om_p (oc_aload 0 38)), (38, om_getf gM 20 41), (41, om_puti gM 0 44), (44, om_vret), (45, om_p (oc_ci (0) 46)), (46, om_p (oc_istore 2 47)), (47, om_p (oc_iload 2 48)), (48, om_p (oc_aload 0 49)), (49, om_getf gM 8 52), (52, om_p (oc_icmp_ge 79 55)), (55, om_p (oc_aload 0 56)), (56, om_getf gM 3 59), (59, om_p (oc_ci (1000) 62)), (62, om_p (oc_iload 1 63)), (63, om_p (oc_imul 64)), (64, om_p (oc_iload 2 65)), (65, om_p (oc_iadd 66)), (66, om_p (oc_aload 0 67)), (67, om_getf gM 7 70), (70, om_p (oc_iload 2 71)), (71, om_ald gM 0 72), (72, om_ast gM 0 cs_i 73), (73, om_p (oc_iinc 2 (1) 76)), (76, om_p (oc_goto 47)), (79, om_p (oc_aload 0 80)), (80, om_getf gM 4 83), (83, om_p (oc_iload 1 84)), (84, om_p (oc_aload 0 85)), (85, om_getf gM 8 88), (88, om_ast gM 0 cs_i 89), (89, om_p (oc_aload 0 90)), (90, om_getf gM 5 93), (93, om_p (oc_iload 1 94)), (94, om_p (oc_aload 0 95)), (95, om_getf gM 11 98), (98, om_ast gM 2 cs_b 99), (99, om_p (oc_aload 0 100)), (100, om_getf gM 6 103), (103, om_p (oc_iload 1 104)), (104, om_p (oc_aload 0 105)), (105, om_getf gM 9 108), (108, om_p (oc_l2i 109)), (109, om_ast gM 0 cs_i 110), (110, om_vret)]
set_option maxRecDepth 20000 in
theorem okm_Mo_store {l : Launch} {B : zd_B} (hG : zd_G B) (hl : l.stackTraces = false) : ∀ q ∈ cm_Mo_store l B, zm_ok l B gM m_Mo_store q.1 q.2 := by
  unfold cm_Mo_store
  refine zm_ac (om_pk nt_aload (ok_aload_n (l := l) (B := B) (y := m_Mo_store) (pc := 0) (k := 0) rfl (zd_dr dc_Mo_store 0 rfl))) ?_
  refine zm_ac (ok_mcallv rfl (ok_callv (l := l) (B := B) (y := m_Mo_store) (pc := 1) hG (ci := 8) rfl cf_Mo_store_Mo_trim rfl (List.mem_of_getElem? (i := 984) (by decide +kernel)) (List.mem_of_getElem? (i := 986) (by decide +kernel)) (List.mem_of_getElem? (i := 30) (by decide +kernel)) (zd_dr dc_Mo_store 1 rfl))) ?_
  refine zm_ac (om_pk nt_aload (ok_aload_n (l := l) (B := B) (y := m_Mo_store) (pc := 4) (k := 0) rfl (zd_dr dc_Mo_store 2 rfl))) ?_
  refine zm_ac (ok_mgetf rfl (ok_getf (l := l) (B := B) (y := m_Mo_store) (pc := 5) hG (C := zR8) (T := zT8) (N := 21) (ci := 8) (k := 8) rfl zl8 (by decide) (List.mem_of_getElem? (i := 890) (by decide +kernel)) (zd_dr dc_Mo_store 3 rfl))) ?_
  refine zm_ac (om_pk nt_ci (ok_sipush (l := l) (B := B) (y := m_Mo_store) (pc := 8) (n := (1000)) (zd_dr dc_Mo_store 4 rfl) rfl)) ?_
  refine zm_ac (om_pk nt_icmp_gt (ok_icmp_gt (l := l) (B := B) (y := m_Mo_store) (pc := 11) (zd_dr dc_Mo_store 5 rfl) (by decide))) ?_
  refine zm_ac (om_pk nt_aload (ok_aload_n (l := l) (B := B) (y := m_Mo_store) (pc := 14) (k := 0) rfl (zd_dr dc_Mo_store 6 rfl))) ?_
  refine zm_ac (ok_mgetf rfl (ok_getf (l := l) (B := B) (y := m_Mo_store) (pc := 15) hG (C := zR8) (T := zT8) (N := 21) (ci := 8) (k := 9) rfl zl8 (by decide) (List.mem_of_getElem? (i := 891) (by decide +kernel)) (zd_dr dc_Mo_store 7 rfl))) ?_
  refine zm_ac (om_pk nt_cl (ok_ldc2 (l := l) (B := B) (y := m_Mo_store) (pc := 18) hG (List.mem_of_getElem? (i := 988) (by decide +kernel)) (zd_dr dc_Mo_store 8 rfl))) ?_
  refine zm_ac (om_pk nt_lcmp (ok_lcmp (l := l) (B := B) (y := m_Mo_store) (pc := 21) (zd_dr dc_Mo_store 9 rfl))) ?_
  refine zm_ac (om_pk nt_if_lt (ok_if_lt (l := l) (B := B) (y := m_Mo_store) (pc := 22) (zd_dr dc_Mo_store 10 rfl) (by decide))) ?_
  refine zm_ac (om_pk nt_aload (ok_aload_n (l := l) (B := B) (y := m_Mo_store) (pc := 25) (k := 0) rfl (zd_dr dc_Mo_store 11 rfl))) ?_
  refine zm_ac (ok_mgetf rfl (ok_getf (l := l) (B := B) (y := m_Mo_store) (pc := 26) hG (C := zR8) (T := zT8) (N := 21) (ci := 8) (k := 9) rfl zl8 (by decide) (List.mem_of_getElem? (i := 891) (by decide +kernel)) (zd_dr dc_Mo_store 12 rfl))) ?_
  refine zm_ac (om_pk nt_cl (ok_ldc2 (l := l) (B := B) (y := m_Mo_store) (pc := 29) hG (List.mem_of_getElem? (i := 989) (by decide +kernel)) (zd_dr dc_Mo_store 13 rfl))) ?_
  refine zm_ac (om_pk nt_lcmp (ok_lcmp (l := l) (B := B) (y := m_Mo_store) (pc := 32) (zd_dr dc_Mo_store 14 rfl))) ?_
  refine zm_ac (om_pk nt_if_le (ok_if_le (l := l) (B := B) (y := m_Mo_store) (pc := 33) (zd_dr dc_Mo_store 15 rfl) (by decide))) ?_
  refine zm_ac (om_pk nt_aload (ok_aload_n (l := l) (B := B) (y := m_Mo_store) (pc := 36) (k := 0) rfl (zd_dr dc_Mo_store 16 rfl))) ?_
  refine zm_ac (om_pk nt_aload (ok_aload_n (l := l) (B := B) (y := m_Mo_store) (pc := 37) (k := 0) rfl (zd_dr dc_Mo_store 17 rfl))) ?_
  refine zm_ac (ok_mgetf rfl (ok_getf (l := l) (B := B) (y := m_Mo_store) (pc := 38) hG (C := zR8) (T := zT8) (N := 21) (ci := 8) (k := 20) rfl zl8 (by decide) (List.mem_of_getElem? (i := 902) (by decide +kernel)) (zd_dr dc_Mo_store 18 rfl))) ?_
  refine zm_ac (ok_mputi rfl (ok_putf (l := l) (B := B) (y := m_Mo_store) (pc := 41) hG (C := zR8) (T := zT8) (N := 21) (ci := 8) (k := 0) rfl zl8 zt8 (by decide) (List.mem_of_getElem? (i := 882) (by decide +kernel)) rfl (zd_dr dc_Mo_store 19 rfl))) ?_
  refine zm_ac (ok_mvret (ok_vret (l := l) (B := B) (y := m_Mo_store) (pc := 44) rfl (zd_dr dc_Mo_store 20 rfl))) ?_
  refine zm_ac (om_pk nt_ci (ok_iconst (l := l) (B := B) (y := m_Mo_store) (pc := 45) (n := (0)) (zd_dr dc_Mo_store 21 rfl) rfl)) ?_
  refine zm_ac (om_pk nt_istore (ok_istore_n (l := l) (B := B) (y := m_Mo_store) (pc := 46) (k := 2) rfl (zd_dr dc_Mo_store 22 rfl) (by decide))) ?_
  refine zm_ac (om_pk nt_iload (ok_iload_n (l := l) (B := B) (y := m_Mo_store) (pc := 47) (k := 2) rfl (zd_dr dc_Mo_store 23 rfl))) ?_
  refine zm_ac (om_pk nt_aload (ok_aload_n (l := l) (B := B) (y := m_Mo_store) (pc := 48) (k := 0) rfl (zd_dr dc_Mo_store 24 rfl))) ?_
  refine zm_ac (ok_mgetf rfl (ok_getf (l := l) (B := B) (y := m_Mo_store) (pc := 49) hG (C := zR8) (T := zT8) (N := 21) (ci := 8) (k := 8) rfl zl8 (by decide) (List.mem_of_getElem? (i := 890) (by decide +kernel)) (zd_dr dc_Mo_store 25 rfl))) ?_
  refine zm_ac (om_pk nt_icmp_ge (ok_icmp_ge (l := l) (B := B) (y := m_Mo_store) (pc := 52) (zd_dr dc_Mo_store 26 rfl) (by decide))) ?_
  refine zm_ac (om_pk nt_aload (ok_aload_n (l := l) (B := B) (y := m_Mo_store) (pc := 55) (k := 0) rfl (zd_dr dc_Mo_store 27 rfl))) ?_
  refine zm_ac (ok_mgetf rfl (ok_getf (l := l) (B := B) (y := m_Mo_store) (pc := 56) hG (C := zR8) (T := zT8) (N := 21) (ci := 8) (k := 3) rfl zl8 (by decide) (List.mem_of_getElem? (i := 885) (by decide +kernel)) (zd_dr dc_Mo_store 28 rfl))) ?_
  refine zm_ac (om_pk nt_ci (ok_sipush (l := l) (B := B) (y := m_Mo_store) (pc := 59) (n := (1000)) (zd_dr dc_Mo_store 29 rfl) rfl)) ?_
  refine zm_ac (om_pk nt_iload (ok_iload_n (l := l) (B := B) (y := m_Mo_store) (pc := 62) (k := 1) rfl (zd_dr dc_Mo_store 30 rfl))) ?_
  refine zm_ac (om_pk nt_imul (ok_imul (l := l) (B := B) (y := m_Mo_store) (pc := 63) (zd_dr dc_Mo_store 31 rfl))) ?_
  refine zm_ac (om_pk nt_iload (ok_iload_n (l := l) (B := B) (y := m_Mo_store) (pc := 64) (k := 2) rfl (zd_dr dc_Mo_store 32 rfl))) ?_
  refine zm_ac (om_pk nt_iadd (ok_iadd (l := l) (B := B) (y := m_Mo_store) (pc := 65) (zd_dr dc_Mo_store 33 rfl))) ?_
  refine zm_ac (om_pk nt_aload (ok_aload_n (l := l) (B := B) (y := m_Mo_store) (pc := 66) (k := 0) rfl (zd_dr dc_Mo_store 34 rfl))) ?_
  refine zm_ac (ok_mgetf rfl (ok_getf (l := l) (B := B) (y := m_Mo_store) (pc := 67) hG (C := zR8) (T := zT8) (N := 21) (ci := 8) (k := 7) rfl zl8 (by decide) (List.mem_of_getElem? (i := 889) (by decide +kernel)) (zd_dr dc_Mo_store 35 rfl))) ?_
  refine zm_ac (om_pk nt_iload (ok_iload_n (l := l) (B := B) (y := m_Mo_store) (pc := 70) (k := 2) rfl (zd_dr dc_Mo_store 36 rfl))) ?_
  refine zm_ac (ok_miaload (ok_iaload (l := l) (B := B) (y := m_Mo_store) (pc := 71) hG (zd_dr dc_Mo_store 37 rfl))) ?_
  refine zm_ac (ok_miastore (ok_iastore (l := l) (B := B) (y := m_Mo_store) (pc := 72) hG (zd_dr dc_Mo_store 38 rfl))) ?_
  refine zm_ac (om_pk nt_iinc (ok_iinc (l := l) (B := B) (y := m_Mo_store) (pc := 73) (zd_dr dc_Mo_store 39 rfl) (by decide) rfl)) ?_
  refine zm_ac (om_pk nt_goto (ok_goto (l := l) (B := B) (y := m_Mo_store) (pc := 76) (zd_dr dc_Mo_store 40 rfl) (by decide))) ?_
  refine zm_ac (om_pk nt_aload (ok_aload_n (l := l) (B := B) (y := m_Mo_store) (pc := 79) (k := 0) rfl (zd_dr dc_Mo_store 41 rfl))) ?_
  refine zm_ac (ok_mgetf rfl (ok_getf (l := l) (B := B) (y := m_Mo_store) (pc := 80) hG (C := zR8) (T := zT8) (N := 21) (ci := 8) (k := 4) rfl zl8 (by decide) (List.mem_of_getElem? (i := 886) (by decide +kernel)) (zd_dr dc_Mo_store 42 rfl))) ?_
  refine zm_ac (om_pk nt_iload (ok_iload_n (l := l) (B := B) (y := m_Mo_store) (pc := 83) (k := 1) rfl (zd_dr dc_Mo_store 43 rfl))) ?_
  refine zm_ac (om_pk nt_aload (ok_aload_n (l := l) (B := B) (y := m_Mo_store) (pc := 84) (k := 0) rfl (zd_dr dc_Mo_store 44 rfl))) ?_
  refine zm_ac (ok_mgetf rfl (ok_getf (l := l) (B := B) (y := m_Mo_store) (pc := 85) hG (C := zR8) (T := zT8) (N := 21) (ci := 8) (k := 8) rfl zl8 (by decide) (List.mem_of_getElem? (i := 890) (by decide +kernel)) (zd_dr dc_Mo_store 45 rfl))) ?_
  refine zm_ac (ok_miastore (ok_iastore (l := l) (B := B) (y := m_Mo_store) (pc := 88) hG (zd_dr dc_Mo_store 46 rfl))) ?_
  refine zm_ac (om_pk nt_aload (ok_aload_n (l := l) (B := B) (y := m_Mo_store) (pc := 89) (k := 0) rfl (zd_dr dc_Mo_store 47 rfl))) ?_
  refine zm_ac (ok_mgetf rfl (ok_getf (l := l) (B := B) (y := m_Mo_store) (pc := 90) hG (C := zR8) (T := zT8) (N := 21) (ci := 8) (k := 5) rfl zl8 (by decide) (List.mem_of_getElem? (i := 887) (by decide +kernel)) (zd_dr dc_Mo_store 48 rfl))) ?_
  refine zm_ac (om_pk nt_iload (ok_iload_n (l := l) (B := B) (y := m_Mo_store) (pc := 93) (k := 1) rfl (zd_dr dc_Mo_store 49 rfl))) ?_
  refine zm_ac (om_pk nt_aload (ok_aload_n (l := l) (B := B) (y := m_Mo_store) (pc := 94) (k := 0) rfl (zd_dr dc_Mo_store 50 rfl))) ?_
  refine zm_ac (ok_mgetf rfl (ok_getf (l := l) (B := B) (y := m_Mo_store) (pc := 95) hG (C := zR8) (T := zT8) (N := 21) (ci := 8) (k := 11) rfl zl8 (by decide) (List.mem_of_getElem? (i := 893) (by decide +kernel)) (zd_dr dc_Mo_store 51 rfl))) ?_
  refine zm_ac (ok_mbastore (ok_bastore (l := l) (B := B) (y := m_Mo_store) (pc := 98) hG (zd_dr dc_Mo_store 52 rfl))) ?_
  refine zm_ac (om_pk nt_aload (ok_aload_n (l := l) (B := B) (y := m_Mo_store) (pc := 99) (k := 0) rfl (zd_dr dc_Mo_store 53 rfl))) ?_
  refine zm_ac (ok_mgetf rfl (ok_getf (l := l) (B := B) (y := m_Mo_store) (pc := 100) hG (C := zR8) (T := zT8) (N := 21) (ci := 8) (k := 6) rfl zl8 (by decide) (List.mem_of_getElem? (i := 888) (by decide +kernel)) (zd_dr dc_Mo_store 54 rfl))) ?_
  refine zm_ac (om_pk nt_iload (ok_iload_n (l := l) (B := B) (y := m_Mo_store) (pc := 103) (k := 1) rfl (zd_dr dc_Mo_store 55 rfl))) ?_
  refine zm_ac (om_pk nt_aload (ok_aload_n (l := l) (B := B) (y := m_Mo_store) (pc := 104) (k := 0) rfl (zd_dr dc_Mo_store 56 rfl))) ?_
  refine zm_ac (ok_mgetf rfl (ok_getf (l := l) (B := B) (y := m_Mo_store) (pc := 105) hG (C := zR8) (T := zT8) (N := 21) (ci := 8) (k := 9) rfl zl8 (by decide) (List.mem_of_getElem? (i := 891) (by decide +kernel)) (zd_dr dc_Mo_store 57 rfl))) ?_
  refine zm_ac (om_pk nt_l2i (ok_l2i (l := l) (B := B) (y := m_Mo_store) (pc := 108) (zd_dr dc_Mo_store 58 rfl))) ?_
  refine zm_ac (ok_miastore (ok_iastore (l := l) (B := B) (y := m_Mo_store) (pc := 109) hG (zd_dr dc_Mo_store 59 rfl))) ?_
  refine zm_ac (ok_mvret (ok_vret (l := l) (B := B) (y := m_Mo_store) (pc := 110) rfl (zd_dr dc_Mo_store 60 rfl))) ?_
  exact zm_an
def dl_Mo_isMore : List (Nat × Instr × Nat) := [(0, .aload_n 0, 1), (1, .getfield 52, 3), (4, .istore_n 2, 1), (5, .iload_n 1, 1), (6, .ifCond .ge (7), 3), (9, .iconst (0), 1), (10, .goto (4), 3), (13, .iload_n 1, 1), (14, .istore_n 3, 1), (15, .iload_n 3, 1), (16, .aload_n 0, 1), (17, .getfield 45, 3), (20, .if_icmp .ge (28), 3), (23, .iload_n 2, 1), (24, .ifCond .ne (12), 3), (27, .aload_n 0, 1), (28, .getfield 26, 3), (31, .iload_n 3, 1), (32, .iaload, 1), (33, .ifCond .eq (7), 3), (36, .iconst (1), 1), (37, .goto (4), 3), (40, .iconst (0), 1), (41, .istore_n 2, 1), (42, .iinc 3 (1), 3), (45, .goto (-30), 3), (48, .iload_n 2, 1), (49, .ireturn, 1)]
theorem dc_Mo_isMore : ∀ q ∈ dl_Mo_isMore, decode (zd_yb m_Mo_isMore) q.1 = .ok q.2 := by decide +kernel
def cm_Mo_isMore (l : Launch) (B : zd_B) : List (Nat × zm_S) := [(0, om_p (oc_aload 0 1)), (1, om_getf gM 10 4), (4, om_p (oc_istore 2 5)), (5, om_p (oc_iload 1 6)), (6, om_p (oc_if_ge 13 9)), (9, om_p (oc_ci (0) 10)), (10, om_p (oc_goto 14)), (13, om_p (oc_iload 1 14)), (14, om_p (oc_istore 3 15)), (15, om_p (oc_iload 3 16)), (16, om_p (oc_aload 0 17)), (17, om_getf gM 8 20), (20, om_p (oc_icmp_ge 48 23)), (23, om_p (oc_iload 2 24)), (24, om_p (oc_if_ne 36 27)), (27, om_p (oc_aload 0 28)), (28, om_getf gM 7 31), (31, om_p (oc_iload 3 32)), (32, om_ald gM 0 33), (33, om_p (oc_if_eq 40 36)), (36, om_p (oc_ci (1) 37)), (37, om_p (oc_goto 41)), (40, om_p (oc_ci (0) 41)), (41, om_p (oc_istore 2 42)), (42, om_p (oc_iinc 3 (1) 45)), (45, om_p (oc_goto 15)), (48, om_p (oc_iload 2 49)), (49, om_zret)]
set_option maxRecDepth 20000 in
theorem okm_Mo_isMore {l : Launch} {B : zd_B} (hG : zd_G B) (hl : l.stackTraces = false) : ∀ q ∈ cm_Mo_isMore l B, zm_ok l B gM m_Mo_isMore q.1 q.2 := by
  unfold cm_Mo_isMore
  refine zm_ac (om_pk nt_aload (ok_aload_n (l := l) (B := B) (y := m_Mo_isMore) (pc := 0) (k := 0) rfl (zd_dr dc_Mo_isMore 0 rfl))) ?_
  refine zm_ac (ok_mgetf rfl (ok_getf (l := l) (B := B) (y := m_Mo_isMore) (pc := 1) hG (C := zR8) (T := zT8) (N := 21) (ci := 8) (k := 10) rfl zl8 (by decide) (List.mem_of_getElem? (i := 892) (by decide +kernel)) (zd_dr dc_Mo_isMore 1 rfl))) ?_
  refine zm_ac (om_pk nt_istore (ok_istore_n (l := l) (B := B) (y := m_Mo_isMore) (pc := 4) (k := 2) rfl (zd_dr dc_Mo_isMore 2 rfl) (by decide))) ?_
  refine zm_ac (om_pk nt_iload (ok_iload_n (l := l) (B := B) (y := m_Mo_isMore) (pc := 5) (k := 1) rfl (zd_dr dc_Mo_isMore 3 rfl))) ?_
  refine zm_ac (om_pk nt_if_ge (ok_if_ge (l := l) (B := B) (y := m_Mo_isMore) (pc := 6) (zd_dr dc_Mo_isMore 4 rfl) (by decide))) ?_
  refine zm_ac (om_pk nt_ci (ok_iconst (l := l) (B := B) (y := m_Mo_isMore) (pc := 9) (n := (0)) (zd_dr dc_Mo_isMore 5 rfl) rfl)) ?_
  refine zm_ac (om_pk nt_goto (ok_goto (l := l) (B := B) (y := m_Mo_isMore) (pc := 10) (zd_dr dc_Mo_isMore 6 rfl) (by decide))) ?_
  refine zm_ac (om_pk nt_iload (ok_iload_n (l := l) (B := B) (y := m_Mo_isMore) (pc := 13) (k := 1) rfl (zd_dr dc_Mo_isMore 7 rfl))) ?_
  refine zm_ac (om_pk nt_istore (ok_istore_n (l := l) (B := B) (y := m_Mo_isMore) (pc := 14) (k := 3) rfl (zd_dr dc_Mo_isMore 8 rfl) (by decide))) ?_
  refine zm_ac (om_pk nt_iload (ok_iload_n (l := l) (B := B) (y := m_Mo_isMore) (pc := 15) (k := 3) rfl (zd_dr dc_Mo_isMore 9 rfl))) ?_
  refine zm_ac (om_pk nt_aload (ok_aload_n (l := l) (B := B) (y := m_Mo_isMore) (pc := 16) (k := 0) rfl (zd_dr dc_Mo_isMore 10 rfl))) ?_
  refine zm_ac (ok_mgetf rfl (ok_getf (l := l) (B := B) (y := m_Mo_isMore) (pc := 17) hG (C := zR8) (T := zT8) (N := 21) (ci := 8) (k := 8) rfl zl8 (by decide) (List.mem_of_getElem? (i := 890) (by decide +kernel)) (zd_dr dc_Mo_isMore 11 rfl))) ?_
  refine zm_ac (om_pk nt_icmp_ge (ok_icmp_ge (l := l) (B := B) (y := m_Mo_isMore) (pc := 20) (zd_dr dc_Mo_isMore 12 rfl) (by decide))) ?_
  refine zm_ac (om_pk nt_iload (ok_iload_n (l := l) (B := B) (y := m_Mo_isMore) (pc := 23) (k := 2) rfl (zd_dr dc_Mo_isMore 13 rfl))) ?_
  refine zm_ac (om_pk nt_if_ne (ok_if_ne (l := l) (B := B) (y := m_Mo_isMore) (pc := 24) (zd_dr dc_Mo_isMore 14 rfl) (by decide))) ?_
  refine zm_ac (om_pk nt_aload (ok_aload_n (l := l) (B := B) (y := m_Mo_isMore) (pc := 27) (k := 0) rfl (zd_dr dc_Mo_isMore 15 rfl))) ?_
  refine zm_ac (ok_mgetf rfl (ok_getf (l := l) (B := B) (y := m_Mo_isMore) (pc := 28) hG (C := zR8) (T := zT8) (N := 21) (ci := 8) (k := 7) rfl zl8 (by decide) (List.mem_of_getElem? (i := 889) (by decide +kernel)) (zd_dr dc_Mo_isMore 16 rfl))) ?_
  refine zm_ac (om_pk nt_iload (ok_iload_n (l := l) (B := B) (y := m_Mo_isMore) (pc := 31) (k := 3) rfl (zd_dr dc_Mo_isMore 17 rfl))) ?_
  refine zm_ac (ok_miaload (ok_iaload (l := l) (B := B) (y := m_Mo_isMore) (pc := 32) hG (zd_dr dc_Mo_isMore 18 rfl))) ?_
  refine zm_ac (om_pk nt_if_eq (ok_if_eq (l := l) (B := B) (y := m_Mo_isMore) (pc := 33) (zd_dr dc_Mo_isMore 19 rfl) (by decide))) ?_
  refine zm_ac (om_pk nt_ci (ok_iconst (l := l) (B := B) (y := m_Mo_isMore) (pc := 36) (n := (1)) (zd_dr dc_Mo_isMore 20 rfl) rfl)) ?_
  refine zm_ac (om_pk nt_goto (ok_goto (l := l) (B := B) (y := m_Mo_isMore) (pc := 37) (zd_dr dc_Mo_isMore 21 rfl) (by decide))) ?_
  refine zm_ac (om_pk nt_ci (ok_iconst (l := l) (B := B) (y := m_Mo_isMore) (pc := 40) (n := (0)) (zd_dr dc_Mo_isMore 22 rfl) rfl)) ?_
  refine zm_ac (om_pk nt_istore (ok_istore_n (l := l) (B := B) (y := m_Mo_isMore) (pc := 41) (k := 2) rfl (zd_dr dc_Mo_isMore 23 rfl) (by decide))) ?_
  refine zm_ac (om_pk nt_iinc (ok_iinc (l := l) (B := B) (y := m_Mo_isMore) (pc := 42) (zd_dr dc_Mo_isMore 24 rfl) (by decide) rfl)) ?_
  refine zm_ac (om_pk nt_goto (ok_goto (l := l) (B := B) (y := m_Mo_isMore) (pc := 45) (zd_dr dc_Mo_isMore 25 rfl) (by decide))) ?_
  refine zm_ac (om_pk nt_iload (ok_iload_n (l := l) (B := B) (y := m_Mo_isMore) (pc := 48) (k := 2) rfl (zd_dr dc_Mo_isMore 26 rfl))) ?_
  refine zm_ac (ok_mzret (ok_iret (l := l) (B := B) (y := m_Mo_isMore) (pc := 49) rfl (zd_dr dc_Mo_isMore 27 rfl))) ?_
  exact zm_an
def dl_Mo_grows : List (Nat × Instr × Nat) := [(0, .iload_n 1, 1), (1, .ifCond .lt (20), 3), (4, .iload_n 1, 1), (5, .aload_n 0, 1), (6, .getfield 45, 3), (9, .if_icmp .ge (12), 3), (12, .aload_n 0, 1), (13, .getfield 26, 3), (16, .iload_n 1, 1), (17, .iaload, 1), (18, .goto (4), 3), (21, .iconst (0), 1), (22, .istore_n 3, 1), (23, .aload_n 0, 1), (24, .iload_n 1, 1), (25, .iconst (1), 1), (26, .iadd, 1), (27, .invokevirtual 69, 3), (30, .ifCond .ne (15), 3), (33, .iload_n 1, 1), (34, .ifCond .ge (15), 3), (37, .aload_n 0, 1), (38, .iconst (0), 1), (39, .invokevirtual 69, 3), (42, .ifCond .eq (7), 3), (45, .iconst (1), 1), (46, .goto (4), 3), (49, .iconst (0), 1), (50, .istore 4, 2), (52, .iload_n 3, 1), (53, .ifCond .ne (12), 3), (56, .iload 4, 2), (58, .ifCond .ne (7), 3), (61, .iconst (1), 1), (62, .goto (4), 3), (65, .iconst (0), 1), (66, .istore 5, 2), (68, .iload_n 1, 1), (69, .ifCond .le (22), 3), (72, .iload_n 1, 1), (73, .aload_n 0, 1), (74, .getfield 45, 3), (77, .if_icmp .gt (14), 3), (80, .aload_n 0, 1), (81, .getfield 26, 3), (84, .iload_n 1, 1), (85, .iconst (1), 1), (86, .isub, 1), (87, .iaload, 1), (88, .goto (4), 3), (91, .iconst (0), 1), (92, .istore 6, 2), (94, .iload_n 2, 1), (95, .tableswitch (151) (0) (6) #[(41), (52), (54), (72), (90), (101), (122)], 41), (136, .iload 5, 2), (138, .ifCond .eq (7), 3), (141, .iconst (0), 1), (142, .goto (4), 3), (145, .iconst (1), 1), (146, .ireturn, 1), (147, .iconst (0), 1), (148, .ireturn, 1), (149, .iload 5, 2), (151, .ifCond .ne (10), 3), (154, .aload_n 0, 1), (155, .getfield 56, 3), (158, .ifCond .eq (7), 3), (161, .iconst (0), 1), (162, .goto (4), 3), (165, .iconst (1), 1), (166, .ireturn, 1), (167, .iload 5, 2), (169, .ifCond .ne (10), 3), (172, .aload_n 0, 1), (173, .getfield 56, 3), (176, .ifCond .ne (7), 3), (179, .iconst (0), 1), (180, .goto (4), 3), (183, .iconst (1), 1), (184, .ireturn, 1), (185, .iload_n 3, 1), (186, .iconst (5), 1), (187, .if_icmp .lt (7), 3), (190, .iconst (1), 1), (191, .goto (4), 3), (194, .iconst (0), 1), (195, .ireturn, 1), (196, .iload_n 3, 1), (197, .iconst (5), 1), (198, .if_icmp .gt (13), 3), (201, .iload_n 3, 1), (202, .iconst (5), 1), (203, .if_icmp .ne (12), 3), (206, .iload 4, 2), (208, .ifCond .eq (7), 3), (211, .iconst (1), 1), (212, .goto (4), 3), (215, .iconst (0), 1), (216, .ireturn, 1), (217, .iload_n 3, 1), (218, .iconst (5), 1), (219, .if_icmp .gt (21), 3), (222, .iload_n 3, 1), (223, .iconst (5), 1), (224, .if_icmp .ne (20), 3), (227, .iload 4, 2), (229, .ifCond .ne (11), 3), (232, .iload 6, 2), (234, .iconst (2), 1), (235, .irem, 1), (236, .iconst (1), 1), (237, .if_icmp .ne (7), 3), (240, .iconst (1), 1), (241, .goto (4), 3), (244, .iconst (0), 1), (245, .ireturn, 1), (246, .iload 5, 2), (248, .ifCond .eq (7), 3), (251, .iconst (0), 1), (252, .goto (4), 3), (255, .iconst (2), 1), (256, .ireturn, 1)]
theorem dc_Mo_grows : ∀ q ∈ dl_Mo_grows, decode (zd_yb m_Mo_grows) q.1 = .ok q.2 := by decide +kernel
def cm_Mo_grows (l : Launch) (B : zd_B) : List (Nat × zm_S) := [(0, om_p (oc_iload 1 1)), (1, om_p (oc_if_lt 21 4)), (4, om_p (oc_iload 1 5)), (5, om_p (oc_aload 0 6)), (6, om_getf gM 8 9), (9, om_p (oc_icmp_ge 21 12)), (12, om_p (oc_aload 0 13)), (13, om_getf gM 7 16), (16, om_p (oc_iload 1 17)), (17, om_ald gM 0 18), (18, om_p (oc_goto 22)), (21, om_p (oc_ci (0) 22)), (22, om_p (oc_istore 3 23)), (23, om_p (oc_aload 0 24)), (24, om_p (oc_iload 1 25)), (25, om_p (oc_ci (1) 26)), (26, om_p (oc_iadd 27)), (27, om_callv l B gM m_Mo_isMore 1 30), (30, om_p (oc_if_ne 45 33)), (33, om_p (oc_iload 1 34)), (34, om_p (oc_if_ge 49 37)), (37, om_p (oc_aload 0 38)), (38, om_p (oc_ci (0) 39)), (39, om_callv l B gM m_Mo_isMore 1 42), (42, om_p (oc_if_eq 49 45)), (45, om_p (oc_ci (1) 46)), (46, om_p (oc_goto 50)), (49, om_p (oc_ci (0) 50)), (50, om_p (oc_istore 4 52)), (52, om_p (oc_iload 3 53)), (53, om_p (oc_if_ne 65 56)), (56, om_p (oc_iload 4 58)), (58, om_p (oc_if_ne 65 61)), (61, om_p (oc_ci (1) 62)), (62, om_p (oc_goto 66)), (65, om_p (oc_ci (0) 66)), (66, om_p (oc_istore 5 68)), (68, om_p (oc_iload 1 69)), (69, om_p (oc_if_le 91 72)), (72, om_p (oc_iload 1 73)), (73, om_p (oc_aload 0 74)), (74, om_getf gM 8 77), (77, om_p (oc_icmp_gt 91 80)), (80, om_p (oc_aload 0 81)), (81, om_getf gM 7 84), (84, om_p (oc_iload 1 85)), (85, om_p (oc_ci (1) 86)), (86, om_p (oc_isub 87)), (87, om_ald gM 0 88), (88, om_p (oc_goto 92)), (91, om_p (oc_ci (0) 92)), (92, om_p (oc_istore 6 94)), (94, om_p (oc_iload 2 95)), (95, om_p (oc_sw [(0, 136), (1, 147), (2, 149), (3, 167), (4, 185), (5, 196), (6, 217)] 246)), (136, om_p (oc_iload 5 138)), (138, om_p (oc_if_eq 145 141)), (141, om_p (oc_ci (0) 142)), (142, om_p (oc_goto 146)), (145, om_p (oc_ci (1) 146)), (146, om_iret), (147, om_p (oc_ci (0) 148)), (148, om_iret), (149, om_p (oc_iload 5 151)), (151, om_p (oc_if_ne 161 154)), (154, om_p (oc_aload 0 155)), (155, om_getf gM 11 158), (158, om_p (oc_if_eq 165 161)), (161, om_p (oc_ci (0) 162)), (162, om_p (oc_goto 166)), (165, om_p (oc_ci (1) 166)), (166, om_iret), (167, om_p (oc_iload 5 169)), (169, om_p (oc_if_ne 179 172)), (172, om_p (oc_aload 0 173)), (173, om_getf gM 11 176), (176, om_p (oc_if_ne 183 179)), (179, om_p (oc_ci (0) 180)), (180, om_p (oc_goto 184)), (183, om_p (oc_ci (1) 184)), (184, om_iret), (185, om_p (oc_iload 3 186)), (186, om_p (oc_ci (5) 187)), (187, om_p (oc_icmp_lt 194 190)), (190, om_p (oc_ci (1) 191)), (191, om_p (oc_goto 195)), (194, om_p (oc_ci (0) 195)), (195, om_iret), (196, om_p (oc_iload 3 197)), (197, om_p (oc_ci (5) 198)), (198, om_p (oc_icmp_gt 211 201)), (201, om_p (oc_iload 3 202)), (202, om_p (oc_ci (5) 203)), (203, om_p (oc_icmp_ne 215 206)), (206, om_p (oc_iload 4 208)), (208, om_p (oc_if_eq 215 211)), (211, om_p (oc_ci (1) 212)), (212, om_p (oc_goto 216)), (215, om_p (oc_ci (0) 216)), (216, om_iret), (217, om_p (oc_iload 3 218)), (218, om_p (oc_ci (5) 219)), (219, om_p (oc_icmp_gt 240 222)), (222, om_p (oc_iload 3 223)), (223, om_p (oc_ci (5) 224)), (224, om_p (oc_icmp_ne 244 227)), (227, om_p (oc_iload 4 229)), (229, om_p (oc_if_ne 240 232)), (232, om_p (oc_iload 6 234)), (234, om_p (oc_ci (2) 235)), (235, om_p (oc_irem 236)), (236, om_p (oc_ci (1) 237)), (237, om_p (oc_icmp_ne 244 240)), (240, om_p (oc_ci (1) 241)), (241, om_p (oc_goto 245)), (244, om_p (oc_ci (0) 245)), (245, om_iret), (246, om_p (oc_iload 5 248)), (248, om_p (oc_if_eq 255 251)), (251, om_p (oc_ci (0) 252)), (252, om_p (oc_goto 256)), (255, om_p (oc_ci (2) 256)), (256, om_iret)]
set_option maxRecDepth 20000 in
theorem okm_Mo_grows {l : Launch} {B : zd_B} (hG : zd_G B) (hl : l.stackTraces = false) : ∀ q ∈ cm_Mo_grows l B, zm_ok l B gM m_Mo_grows q.1 q.2 := by
  unfold cm_Mo_grows
  refine zm_ac (om_pk nt_iload (ok_iload_n (l := l) (B := B) (y := m_Mo_grows) (pc := 0) (k := 1) rfl (zd_dr dc_Mo_grows 0 rfl))) ?_
  refine zm_ac (om_pk nt_if_lt (ok_if_lt (l := l) (B := B) (y := m_Mo_grows) (pc := 1) (zd_dr dc_Mo_grows 1 rfl) (by decide))) ?_
  refine zm_ac (om_pk nt_iload (ok_iload_n (l := l) (B := B) (y := m_Mo_grows) (pc := 4) (k := 1) rfl (zd_dr dc_Mo_grows 2 rfl))) ?_
  refine zm_ac (om_pk nt_aload (ok_aload_n (l := l) (B := B) (y := m_Mo_grows) (pc := 5) (k := 0) rfl (zd_dr dc_Mo_grows 3 rfl))) ?_
  refine zm_ac (ok_mgetf rfl (ok_getf (l := l) (B := B) (y := m_Mo_grows) (pc := 6) hG (C := zR8) (T := zT8) (N := 21) (ci := 8) (k := 8) rfl zl8 (by decide) (List.mem_of_getElem? (i := 890) (by decide +kernel)) (zd_dr dc_Mo_grows 4 rfl))) ?_
  refine zm_ac (om_pk nt_icmp_ge (ok_icmp_ge (l := l) (B := B) (y := m_Mo_grows) (pc := 9) (zd_dr dc_Mo_grows 5 rfl) (by decide))) ?_
  refine zm_ac (om_pk nt_aload (ok_aload_n (l := l) (B := B) (y := m_Mo_grows) (pc := 12) (k := 0) rfl (zd_dr dc_Mo_grows 6 rfl))) ?_
  refine zm_ac (ok_mgetf rfl (ok_getf (l := l) (B := B) (y := m_Mo_grows) (pc := 13) hG (C := zR8) (T := zT8) (N := 21) (ci := 8) (k := 7) rfl zl8 (by decide) (List.mem_of_getElem? (i := 889) (by decide +kernel)) (zd_dr dc_Mo_grows 7 rfl))) ?_
  refine zm_ac (om_pk nt_iload (ok_iload_n (l := l) (B := B) (y := m_Mo_grows) (pc := 16) (k := 1) rfl (zd_dr dc_Mo_grows 8 rfl))) ?_
  refine zm_ac (ok_miaload (ok_iaload (l := l) (B := B) (y := m_Mo_grows) (pc := 17) hG (zd_dr dc_Mo_grows 9 rfl))) ?_
  refine zm_ac (om_pk nt_goto (ok_goto (l := l) (B := B) (y := m_Mo_grows) (pc := 18) (zd_dr dc_Mo_grows 10 rfl) (by decide))) ?_
  refine zm_ac (om_pk nt_ci (ok_iconst (l := l) (B := B) (y := m_Mo_grows) (pc := 21) (n := (0)) (zd_dr dc_Mo_grows 11 rfl) rfl)) ?_
  refine zm_ac (om_pk nt_istore (ok_istore_n (l := l) (B := B) (y := m_Mo_grows) (pc := 22) (k := 3) rfl (zd_dr dc_Mo_grows 12 rfl) (by decide))) ?_
  refine zm_ac (om_pk nt_aload (ok_aload_n (l := l) (B := B) (y := m_Mo_grows) (pc := 23) (k := 0) rfl (zd_dr dc_Mo_grows 13 rfl))) ?_
  refine zm_ac (om_pk nt_iload (ok_iload_n (l := l) (B := B) (y := m_Mo_grows) (pc := 24) (k := 1) rfl (zd_dr dc_Mo_grows 14 rfl))) ?_
  refine zm_ac (om_pk nt_ci (ok_iconst (l := l) (B := B) (y := m_Mo_grows) (pc := 25) (n := (1)) (zd_dr dc_Mo_grows 15 rfl) rfl)) ?_
  refine zm_ac (om_pk nt_iadd (ok_iadd (l := l) (B := B) (y := m_Mo_grows) (pc := 26) (zd_dr dc_Mo_grows 16 rfl))) ?_
  refine zm_ac (ok_mcallv rfl (ok_callv (l := l) (B := B) (y := m_Mo_grows) (pc := 27) hG (ci := 8) rfl cf_Mo_grows_Mo_isMore rfl (List.mem_of_getElem? (i := 1076) (by decide +kernel)) (List.mem_of_getElem? (i := 1078) (by decide +kernel)) (List.mem_of_getElem? (i := 45) (by decide +kernel)) (zd_dr dc_Mo_grows 17 rfl))) ?_
  refine zm_ac (om_pk nt_if_ne (ok_if_ne (l := l) (B := B) (y := m_Mo_grows) (pc := 30) (zd_dr dc_Mo_grows 18 rfl) (by decide))) ?_
  refine zm_ac (om_pk nt_iload (ok_iload_n (l := l) (B := B) (y := m_Mo_grows) (pc := 33) (k := 1) rfl (zd_dr dc_Mo_grows 19 rfl))) ?_
  refine zm_ac (om_pk nt_if_ge (ok_if_ge (l := l) (B := B) (y := m_Mo_grows) (pc := 34) (zd_dr dc_Mo_grows 20 rfl) (by decide))) ?_
  refine zm_ac (om_pk nt_aload (ok_aload_n (l := l) (B := B) (y := m_Mo_grows) (pc := 37) (k := 0) rfl (zd_dr dc_Mo_grows 21 rfl))) ?_
  refine zm_ac (om_pk nt_ci (ok_iconst (l := l) (B := B) (y := m_Mo_grows) (pc := 38) (n := (0)) (zd_dr dc_Mo_grows 22 rfl) rfl)) ?_
  refine zm_ac (ok_mcallv rfl (ok_callv (l := l) (B := B) (y := m_Mo_grows) (pc := 39) hG (ci := 8) rfl cf_Mo_grows_Mo_isMore rfl (List.mem_of_getElem? (i := 1076) (by decide +kernel)) (List.mem_of_getElem? (i := 1078) (by decide +kernel)) (List.mem_of_getElem? (i := 45) (by decide +kernel)) (zd_dr dc_Mo_grows 23 rfl))) ?_
  refine zm_ac (om_pk nt_if_eq (ok_if_eq (l := l) (B := B) (y := m_Mo_grows) (pc := 42) (zd_dr dc_Mo_grows 24 rfl) (by decide))) ?_
  refine zm_ac (om_pk nt_ci (ok_iconst (l := l) (B := B) (y := m_Mo_grows) (pc := 45) (n := (1)) (zd_dr dc_Mo_grows 25 rfl) rfl)) ?_
  refine zm_ac (om_pk nt_goto (ok_goto (l := l) (B := B) (y := m_Mo_grows) (pc := 46) (zd_dr dc_Mo_grows 26 rfl) (by decide))) ?_
  refine zm_ac (om_pk nt_ci (ok_iconst (l := l) (B := B) (y := m_Mo_grows) (pc := 49) (n := (0)) (zd_dr dc_Mo_grows 27 rfl) rfl)) ?_
  refine zm_ac (om_pk nt_istore (ok_istore (l := l) (B := B) (y := m_Mo_grows) (pc := 50) (zd_dr dc_Mo_grows 28 rfl) (by decide))) ?_
  refine zm_ac (om_pk nt_iload (ok_iload_n (l := l) (B := B) (y := m_Mo_grows) (pc := 52) (k := 3) rfl (zd_dr dc_Mo_grows 29 rfl))) ?_
  refine zm_ac (om_pk nt_if_ne (ok_if_ne (l := l) (B := B) (y := m_Mo_grows) (pc := 53) (zd_dr dc_Mo_grows 30 rfl) (by decide))) ?_
  refine zm_ac (om_pk nt_iload (ok_iload (l := l) (B := B) (y := m_Mo_grows) (pc := 56) (zd_dr dc_Mo_grows 31 rfl))) ?_
  refine zm_ac (om_pk nt_if_ne (ok_if_ne (l := l) (B := B) (y := m_Mo_grows) (pc := 58) (zd_dr dc_Mo_grows 32 rfl) (by decide))) ?_
  refine zm_ac (om_pk nt_ci (ok_iconst (l := l) (B := B) (y := m_Mo_grows) (pc := 61) (n := (1)) (zd_dr dc_Mo_grows 33 rfl) rfl)) ?_
  refine zm_ac (om_pk nt_goto (ok_goto (l := l) (B := B) (y := m_Mo_grows) (pc := 62) (zd_dr dc_Mo_grows 34 rfl) (by decide))) ?_
  refine zm_ac (om_pk nt_ci (ok_iconst (l := l) (B := B) (y := m_Mo_grows) (pc := 65) (n := (0)) (zd_dr dc_Mo_grows 35 rfl) rfl)) ?_
  refine zm_ac (om_pk nt_istore (ok_istore (l := l) (B := B) (y := m_Mo_grows) (pc := 66) (zd_dr dc_Mo_grows 36 rfl) (by decide))) ?_
  refine zm_ac (om_pk nt_iload (ok_iload_n (l := l) (B := B) (y := m_Mo_grows) (pc := 68) (k := 1) rfl (zd_dr dc_Mo_grows 37 rfl))) ?_
  refine zm_ac (om_pk nt_if_le (ok_if_le (l := l) (B := B) (y := m_Mo_grows) (pc := 69) (zd_dr dc_Mo_grows 38 rfl) (by decide))) ?_
  refine zm_ac (om_pk nt_iload (ok_iload_n (l := l) (B := B) (y := m_Mo_grows) (pc := 72) (k := 1) rfl (zd_dr dc_Mo_grows 39 rfl))) ?_
  refine zm_ac (om_pk nt_aload (ok_aload_n (l := l) (B := B) (y := m_Mo_grows) (pc := 73) (k := 0) rfl (zd_dr dc_Mo_grows 40 rfl))) ?_
  refine zm_ac (ok_mgetf rfl (ok_getf (l := l) (B := B) (y := m_Mo_grows) (pc := 74) hG (C := zR8) (T := zT8) (N := 21) (ci := 8) (k := 8) rfl zl8 (by decide) (List.mem_of_getElem? (i := 890) (by decide +kernel)) (zd_dr dc_Mo_grows 41 rfl))) ?_
  refine zm_ac (om_pk nt_icmp_gt (ok_icmp_gt (l := l) (B := B) (y := m_Mo_grows) (pc := 77) (zd_dr dc_Mo_grows 42 rfl) (by decide))) ?_
  refine zm_ac (om_pk nt_aload (ok_aload_n (l := l) (B := B) (y := m_Mo_grows) (pc := 80) (k := 0) rfl (zd_dr dc_Mo_grows 43 rfl))) ?_
  refine zm_ac (ok_mgetf rfl (ok_getf (l := l) (B := B) (y := m_Mo_grows) (pc := 81) hG (C := zR8) (T := zT8) (N := 21) (ci := 8) (k := 7) rfl zl8 (by decide) (List.mem_of_getElem? (i := 889) (by decide +kernel)) (zd_dr dc_Mo_grows 44 rfl))) ?_
  refine zm_ac (om_pk nt_iload (ok_iload_n (l := l) (B := B) (y := m_Mo_grows) (pc := 84) (k := 1) rfl (zd_dr dc_Mo_grows 45 rfl))) ?_
  refine zm_ac (om_pk nt_ci (ok_iconst (l := l) (B := B) (y := m_Mo_grows) (pc := 85) (n := (1)) (zd_dr dc_Mo_grows 46 rfl) rfl)) ?_
  refine zm_ac (om_pk nt_isub (ok_isub (l := l) (B := B) (y := m_Mo_grows) (pc := 86) (zd_dr dc_Mo_grows 47 rfl))) ?_
  refine zm_ac (ok_miaload (ok_iaload (l := l) (B := B) (y := m_Mo_grows) (pc := 87) hG (zd_dr dc_Mo_grows 48 rfl))) ?_
  refine zm_ac (om_pk nt_goto (ok_goto (l := l) (B := B) (y := m_Mo_grows) (pc := 88) (zd_dr dc_Mo_grows 49 rfl) (by decide))) ?_
  refine zm_ac (om_pk nt_ci (ok_iconst (l := l) (B := B) (y := m_Mo_grows) (pc := 91) (n := (0)) (zd_dr dc_Mo_grows 50 rfl) rfl)) ?_
  refine zm_ac (om_pk nt_istore (ok_istore (l := l) (B := B) (y := m_Mo_grows) (pc := 92) (zd_dr dc_Mo_grows 51 rfl) (by decide))) ?_
  refine zm_ac (om_pk nt_iload (ok_iload_n (l := l) (B := B) (y := m_Mo_grows) (pc := 94) (k := 2) rfl (zd_dr dc_Mo_grows 52 rfl))) ?_
  refine zm_ac (om_pk nt_sw (ok_sw (l := l) (B := B) (y := m_Mo_grows) (pc := 95) (zd_dr dc_Mo_grows 53 rfl) (by decide) (by unfold zd_swok; decide +kernel))) ?_
  refine zm_ac (om_pk nt_iload (ok_iload (l := l) (B := B) (y := m_Mo_grows) (pc := 136) (zd_dr dc_Mo_grows 54 rfl))) ?_
  refine zm_ac (om_pk nt_if_eq (ok_if_eq (l := l) (B := B) (y := m_Mo_grows) (pc := 138) (zd_dr dc_Mo_grows 55 rfl) (by decide))) ?_
  refine zm_ac (om_pk nt_ci (ok_iconst (l := l) (B := B) (y := m_Mo_grows) (pc := 141) (n := (0)) (zd_dr dc_Mo_grows 56 rfl) rfl)) ?_
  refine zm_ac (om_pk nt_goto (ok_goto (l := l) (B := B) (y := m_Mo_grows) (pc := 142) (zd_dr dc_Mo_grows 57 rfl) (by decide))) ?_
  refine zm_ac (om_pk nt_ci (ok_iconst (l := l) (B := B) (y := m_Mo_grows) (pc := 145) (n := (1)) (zd_dr dc_Mo_grows 58 rfl) rfl)) ?_
  refine zm_ac (ok_miret (ok_iret (l := l) (B := B) (y := m_Mo_grows) (pc := 146) rfl (zd_dr dc_Mo_grows 59 rfl))) ?_
  refine zm_ac (om_pk nt_ci (ok_iconst (l := l) (B := B) (y := m_Mo_grows) (pc := 147) (n := (0)) (zd_dr dc_Mo_grows 60 rfl) rfl)) ?_
  refine zm_ac (ok_miret (ok_iret (l := l) (B := B) (y := m_Mo_grows) (pc := 148) rfl (zd_dr dc_Mo_grows 61 rfl))) ?_
  refine zm_ac (om_pk nt_iload (ok_iload (l := l) (B := B) (y := m_Mo_grows) (pc := 149) (zd_dr dc_Mo_grows 62 rfl))) ?_
  refine zm_ac (om_pk nt_if_ne (ok_if_ne (l := l) (B := B) (y := m_Mo_grows) (pc := 151) (zd_dr dc_Mo_grows 63 rfl) (by decide))) ?_
  refine zm_ac (om_pk nt_aload (ok_aload_n (l := l) (B := B) (y := m_Mo_grows) (pc := 154) (k := 0) rfl (zd_dr dc_Mo_grows 64 rfl))) ?_
  refine zm_ac (ok_mgetf rfl (ok_getf (l := l) (B := B) (y := m_Mo_grows) (pc := 155) hG (C := zR8) (T := zT8) (N := 21) (ci := 8) (k := 11) rfl zl8 (by decide) (List.mem_of_getElem? (i := 893) (by decide +kernel)) (zd_dr dc_Mo_grows 65 rfl))) ?_
  refine zm_ac (om_pk nt_if_eq (ok_if_eq (l := l) (B := B) (y := m_Mo_grows) (pc := 158) (zd_dr dc_Mo_grows 66 rfl) (by decide))) ?_
  refine zm_ac (om_pk nt_ci (ok_iconst (l := l) (B := B) (y := m_Mo_grows) (pc := 161) (n := (0)) (zd_dr dc_Mo_grows 67 rfl) rfl)) ?_
  refine zm_ac (om_pk nt_goto (ok_goto (l := l) (B := B) (y := m_Mo_grows) (pc := 162) (zd_dr dc_Mo_grows 68 rfl) (by decide))) ?_
  refine zm_ac (om_pk nt_ci (ok_iconst (l := l) (B := B) (y := m_Mo_grows) (pc := 165) (n := (1)) (zd_dr dc_Mo_grows 69 rfl) rfl)) ?_
  refine zm_ac (ok_miret (ok_iret (l := l) (B := B) (y := m_Mo_grows) (pc := 166) rfl (zd_dr dc_Mo_grows 70 rfl))) ?_
  refine zm_ac (om_pk nt_iload (ok_iload (l := l) (B := B) (y := m_Mo_grows) (pc := 167) (zd_dr dc_Mo_grows 71 rfl))) ?_
  refine zm_ac (om_pk nt_if_ne (ok_if_ne (l := l) (B := B) (y := m_Mo_grows) (pc := 169) (zd_dr dc_Mo_grows 72 rfl) (by decide))) ?_
  refine zm_ac (om_pk nt_aload (ok_aload_n (l := l) (B := B) (y := m_Mo_grows) (pc := 172) (k := 0) rfl (zd_dr dc_Mo_grows 73 rfl))) ?_
  refine zm_ac (ok_mgetf rfl (ok_getf (l := l) (B := B) (y := m_Mo_grows) (pc := 173) hG (C := zR8) (T := zT8) (N := 21) (ci := 8) (k := 11) rfl zl8 (by decide) (List.mem_of_getElem? (i := 893) (by decide +kernel)) (zd_dr dc_Mo_grows 74 rfl))) ?_
  refine zm_ac (om_pk nt_if_ne (ok_if_ne (l := l) (B := B) (y := m_Mo_grows) (pc := 176) (zd_dr dc_Mo_grows 75 rfl) (by decide))) ?_
  refine zm_ac (om_pk nt_ci (ok_iconst (l := l) (B := B) (y := m_Mo_grows) (pc := 179) (n := (0)) (zd_dr dc_Mo_grows 76 rfl) rfl)) ?_
  refine zm_ac (om_pk nt_goto (ok_goto (l := l) (B := B) (y := m_Mo_grows) (pc := 180) (zd_dr dc_Mo_grows 77 rfl) (by decide))) ?_
  refine zm_ac (om_pk nt_ci (ok_iconst (l := l) (B := B) (y := m_Mo_grows) (pc := 183) (n := (1)) (zd_dr dc_Mo_grows 78 rfl) rfl)) ?_
  refine zm_ac (ok_miret (ok_iret (l := l) (B := B) (y := m_Mo_grows) (pc := 184) rfl (zd_dr dc_Mo_grows 79 rfl))) ?_
  refine zm_ac (om_pk nt_iload (ok_iload_n (l := l) (B := B) (y := m_Mo_grows) (pc := 185) (k := 3) rfl (zd_dr dc_Mo_grows 80 rfl))) ?_
  refine zm_ac (om_pk nt_ci (ok_iconst (l := l) (B := B) (y := m_Mo_grows) (pc := 186) (n := (5)) (zd_dr dc_Mo_grows 81 rfl) rfl)) ?_
  refine zm_ac (om_pk nt_icmp_lt (ok_icmp_lt (l := l) (B := B) (y := m_Mo_grows) (pc := 187) (zd_dr dc_Mo_grows 82 rfl) (by decide))) ?_
  refine zm_ac (om_pk nt_ci (ok_iconst (l := l) (B := B) (y := m_Mo_grows) (pc := 190) (n := (1)) (zd_dr dc_Mo_grows 83 rfl) rfl)) ?_
  refine zm_ac (om_pk nt_goto (ok_goto (l := l) (B := B) (y := m_Mo_grows) (pc := 191) (zd_dr dc_Mo_grows 84 rfl) (by decide))) ?_
  refine zm_ac (om_pk nt_ci (ok_iconst (l := l) (B := B) (y := m_Mo_grows) (pc := 194) (n := (0)) (zd_dr dc_Mo_grows 85 rfl) rfl)) ?_
  refine zm_ac (ok_miret (ok_iret (l := l) (B := B) (y := m_Mo_grows) (pc := 195) rfl (zd_dr dc_Mo_grows 86 rfl))) ?_
  refine zm_ac (om_pk nt_iload (ok_iload_n (l := l) (B := B) (y := m_Mo_grows) (pc := 196) (k := 3) rfl (zd_dr dc_Mo_grows 87 rfl))) ?_
  refine zm_ac (om_pk nt_ci (ok_iconst (l := l) (B := B) (y := m_Mo_grows) (pc := 197) (n := (5)) (zd_dr dc_Mo_grows 88 rfl) rfl)) ?_
  refine zm_ac (om_pk nt_icmp_gt (ok_icmp_gt (l := l) (B := B) (y := m_Mo_grows) (pc := 198) (zd_dr dc_Mo_grows 89 rfl) (by decide))) ?_
  refine zm_ac (om_pk nt_iload (ok_iload_n (l := l) (B := B) (y := m_Mo_grows) (pc := 201) (k := 3) rfl (zd_dr dc_Mo_grows 90 rfl))) ?_
  refine zm_ac (om_pk nt_ci (ok_iconst (l := l) (B := B) (y := m_Mo_grows) (pc := 202) (n := (5)) (zd_dr dc_Mo_grows 91 rfl) rfl)) ?_
  refine zm_ac (om_pk nt_icmp_ne (ok_icmp_ne (l := l) (B := B) (y := m_Mo_grows) (pc := 203) (zd_dr dc_Mo_grows 92 rfl) (by decide))) ?_
  refine zm_ac (om_pk nt_iload (ok_iload (l := l) (B := B) (y := m_Mo_grows) (pc := 206) (zd_dr dc_Mo_grows 93 rfl))) ?_
  refine zm_ac (om_pk nt_if_eq (ok_if_eq (l := l) (B := B) (y := m_Mo_grows) (pc := 208) (zd_dr dc_Mo_grows 94 rfl) (by decide))) ?_
  refine zm_ac (om_pk nt_ci (ok_iconst (l := l) (B := B) (y := m_Mo_grows) (pc := 211) (n := (1)) (zd_dr dc_Mo_grows 95 rfl) rfl)) ?_
  refine zm_ac (om_pk nt_goto (ok_goto (l := l) (B := B) (y := m_Mo_grows) (pc := 212) (zd_dr dc_Mo_grows 96 rfl) (by decide))) ?_
  refine zm_ac (om_pk nt_ci (ok_iconst (l := l) (B := B) (y := m_Mo_grows) (pc := 215) (n := (0)) (zd_dr dc_Mo_grows 97 rfl) rfl)) ?_
  refine zm_ac (ok_miret (ok_iret (l := l) (B := B) (y := m_Mo_grows) (pc := 216) rfl (zd_dr dc_Mo_grows 98 rfl))) ?_
  refine zm_ac (om_pk nt_iload (ok_iload_n (l := l) (B := B) (y := m_Mo_grows) (pc := 217) (k := 3) rfl (zd_dr dc_Mo_grows 99 rfl))) ?_
  refine zm_ac (om_pk nt_ci (ok_iconst (l := l) (B := B) (y := m_Mo_grows) (pc := 218) (n := (5)) (zd_dr dc_Mo_grows 100 rfl) rfl)) ?_
  refine zm_ac (om_pk nt_icmp_gt (ok_icmp_gt (l := l) (B := B) (y := m_Mo_grows) (pc := 219) (zd_dr dc_Mo_grows 101 rfl) (by decide))) ?_
  refine zm_ac (om_pk nt_iload (ok_iload_n (l := l) (B := B) (y := m_Mo_grows) (pc := 222) (k := 3) rfl (zd_dr dc_Mo_grows 102 rfl))) ?_
  refine zm_ac (om_pk nt_ci (ok_iconst (l := l) (B := B) (y := m_Mo_grows) (pc := 223) (n := (5)) (zd_dr dc_Mo_grows 103 rfl) rfl)) ?_
  refine zm_ac (om_pk nt_icmp_ne (ok_icmp_ne (l := l) (B := B) (y := m_Mo_grows) (pc := 224) (zd_dr dc_Mo_grows 104 rfl) (by decide))) ?_
  refine zm_ac (om_pk nt_iload (ok_iload (l := l) (B := B) (y := m_Mo_grows) (pc := 227) (zd_dr dc_Mo_grows 105 rfl))) ?_
  refine zm_ac (om_pk nt_if_ne (ok_if_ne (l := l) (B := B) (y := m_Mo_grows) (pc := 229) (zd_dr dc_Mo_grows 106 rfl) (by decide))) ?_
  refine zm_ac (om_pk nt_iload (ok_iload (l := l) (B := B) (y := m_Mo_grows) (pc := 232) (zd_dr dc_Mo_grows 107 rfl))) ?_
  refine zm_ac (om_pk nt_ci (ok_iconst (l := l) (B := B) (y := m_Mo_grows) (pc := 234) (n := (2)) (zd_dr dc_Mo_grows 108 rfl) rfl)) ?_
  refine zm_ac (om_pk nt_irem (ok_irem (l := l) (B := B) (y := m_Mo_grows) (pc := 235) (zd_dr dc_Mo_grows 109 rfl))) ?_
  refine zm_ac (om_pk nt_ci (ok_iconst (l := l) (B := B) (y := m_Mo_grows) (pc := 236) (n := (1)) (zd_dr dc_Mo_grows 110 rfl) rfl)) ?_
  refine zm_ac (om_pk nt_icmp_ne (ok_icmp_ne (l := l) (B := B) (y := m_Mo_grows) (pc := 237) (zd_dr dc_Mo_grows 111 rfl) (by decide))) ?_
  refine zm_ac (om_pk nt_ci (ok_iconst (l := l) (B := B) (y := m_Mo_grows) (pc := 240) (n := (1)) (zd_dr dc_Mo_grows 112 rfl) rfl)) ?_
  refine zm_ac (om_pk nt_goto (ok_goto (l := l) (B := B) (y := m_Mo_grows) (pc := 241) (zd_dr dc_Mo_grows 113 rfl) (by decide))) ?_
  refine zm_ac (om_pk nt_ci (ok_iconst (l := l) (B := B) (y := m_Mo_grows) (pc := 244) (n := (0)) (zd_dr dc_Mo_grows 114 rfl) rfl)) ?_
  refine zm_ac (ok_miret (ok_iret (l := l) (B := B) (y := m_Mo_grows) (pc := 245) rfl (zd_dr dc_Mo_grows 115 rfl))) ?_
  refine zm_ac (om_pk nt_iload (ok_iload (l := l) (B := B) (y := m_Mo_grows) (pc := 246) (zd_dr dc_Mo_grows 116 rfl))) ?_
  refine zm_ac (om_pk nt_if_eq (ok_if_eq (l := l) (B := B) (y := m_Mo_grows) (pc := 248) (zd_dr dc_Mo_grows 117 rfl) (by decide))) ?_
  refine zm_ac (om_pk nt_ci (ok_iconst (l := l) (B := B) (y := m_Mo_grows) (pc := 251) (n := (0)) (zd_dr dc_Mo_grows 118 rfl) rfl)) ?_
  refine zm_ac (om_pk nt_goto (ok_goto (l := l) (B := B) (y := m_Mo_grows) (pc := 252) (zd_dr dc_Mo_grows 119 rfl) (by decide))) ?_
  refine zm_ac (om_pk nt_ci (ok_iconst (l := l) (B := B) (y := m_Mo_grows) (pc := 255) (n := (2)) (zd_dr dc_Mo_grows 120 rfl) rfl)) ?_
  refine zm_ac (ok_miret (ok_iret (l := l) (B := B) (y := m_Mo_grows) (pc := 256) rfl (zd_dr dc_Mo_grows 121 rfl))) ?_
  exact zm_an
def dl_Mo_cut : List (Nat × Instr × Nat) := [(0, .aload_n 0, 1), (1, .iload_n 1, 1), (2, .iload_n 2, 1), (3, .invokevirtual 73, 3), (6, .istore_n 3, 1), (7, .iload_n 3, 1), (8, .iconst (2), 1), (9, .if_icmp .ne (13), 3), (12, .aload_n 0, 1), (13, .aload_n 0, 1), (14, .getfield 66, 3), (17, .putfield 41, 3), (20, .iconst (0), 1), (21, .ireturn, 1), (22, .aload_n 0, 1), (23, .aload_n 0, 1), (24, .getfield 48, 3), (27, .aload_n 0, 1), (28, .getfield 45, 3), (31, .iload_n 1, 1), (32, .isub, 1), (33, .i2l, 1), (34, .lsub, 1), (35, .putfield 48, 3), (38, .aload_n 0, 1), (39, .iload_n 1, 1), (40, .ifCond .ge (7), 3), (43, .iconst (0), 1), (44, .goto (4), 3), (47, .iload_n 1, 1), (48, .putfield 45, 3), (51, .aload_n 0, 1), (52, .iconst (0), 1), (53, .putfield 52, 3), (56, .aload_n 0, 1), (57, .getfield 45, 3), (60, .iconst (1), 1), (61, .isub, 1), (62, .istore 4, 2), (64, .iload_n 3, 1), (65, .iconst (1), 1), (66, .if_icmp .ne (64), 3), (69, .iload 4, 2), (71, .ifCond .lt (59), 3), (74, .aload_n 0, 1), (75, .getfield 26, 3), (78, .iload 4, 2), (80, .iaload, 1), (81, .bipush (9), 2), (83, .if_icmp .ne (7), 3), (86, .iconst (1), 1), (87, .goto (4), 3), (90, .iconst (0), 1), (91, .istore_n 3, 1), (92, .aload_n 0, 1), (93, .getfield 26, 3), (96, .iload 4, 2), (98, .aload_n 0, 1), (99, .getfield 26, 3), (102, .iload 4, 2), (104, .iaload, 1), (105, .bipush (9), 2), (107, .if_icmp .ne (7), 3), (110, .iconst (0), 1), (111, .goto (12), 3), (114, .aload_n 0, 1), (115, .getfield 26, 3), (118, .iload 4, 2), (120, .iaload, 1), (121, .iconst (1), 1), (122, .iadd, 1), (123, .iastore, 1), (124, .iinc 4 (-1), 3), (127, .goto (-63), 3), (130, .iload_n 3, 1), (131, .iconst (1), 1), (132, .if_icmp .ne (53), 3), (135, .aload_n 0, 1), (136, .getfield 45, 3), (139, .istore 5, 2), (141, .iload 5, 2), (143, .ifCond .le (25), 3), (146, .aload_n 0, 1), (147, .getfield 26, 3), (150, .iload 5, 2), (152, .aload_n 0, 1), (153, .getfield 26, 3), (156, .iload 5, 2), (158, .iconst (1), 1), (159, .isub, 1), (160, .iaload, 1), (161, .iastore, 1), (162, .iinc 5 (-1), 3), (165, .goto (-24), 3), (168, .aload_n 0, 1), (169, .getfield 26, 3), (172, .iconst (0), 1), (173, .iconst (1), 1), (174, .iastore, 1), (175, .aload_n 0, 1), (176, .dup, 1), (177, .getfield 45, 3), (180, .iconst (1), 1), (181, .iadd, 1), (182, .putfield 45, 3), (185, .iconst (1), 1), (186, .ireturn, 1)]
theorem dc_Mo_cut : ∀ q ∈ dl_Mo_cut, decode (zd_yb m_Mo_cut) q.1 = .ok q.2 := by decide +kernel
def cm_Mo_cut (l : Launch) (B : zd_B) : List (Nat × zm_S) := [(0, om_p (oc_aload 0 1)), (1, om_p (oc_iload 1 2)), (2, om_p (oc_iload 2 3)), (3, om_callv l B gM m_Mo_grows 2 6), (6, om_p (oc_istore 3 7)), (7, om_p (oc_iload 3 8)), (8, om_p (oc_ci (2) 9)), (9, om_p (oc_icmp_ne 22 12)), (12, om_p (oc_aload 0 13)), (13, om_p (oc_aload 0 14)), (14, om_getf gM 20 17), (17, om_puti gM 0 20), (20, om_p (oc_ci (0) 21)), (21, om_zret), (22, om_p (oc_aload 0 23)), (23, om_p (oc_aload 0 24)), (24, om_getf gM 9 27), (27, om_p (oc_aload 0 28)), (28, om_getf gM 8 31), (31, om_p (oc_iload 1 32)), (32, om_p (oc_isub 33)), (33, om_p (oc_i2l 34)), (34, om_p (oc_lsub 35)), (35, om_putl gM 9 38), (38, om_p (oc_aload 0 39)), (39, om_p (oc_iload 1 40)), (40, om_p (oc_if_ge 47 43)), (43, om_p (oc_ci (0) 44)), (44, om_p (oc_goto 48)), (47, om_p (oc_iload 1 48)), (48, om_puti gM 8 51), (51, om_p (oc_aload 0 52)), (52, om_p (oc_ci (0) 53)), (53, om_putb gM 10 56), (56, om_p (oc_aload 0 57)), (57, om_getf gM 8 60), (60, om_p (oc_ci (1) 61)), (61, om_p (oc_isub 62)), (62, om_p (oc_istore 4 64)), (64, om_p (oc_iload 3 65)), (65, om_p (oc_ci (1) 66)), (66, om_p (oc_icmp_ne 130 69)), (69, om_p (oc_iload 4 71)), (71, om_p (oc_if_lt 130 74)), (74, om_p (oc_aload 0 75)), (75, om_getf gM 7 78), (78, om_p (oc_iload 4 80)), (80, om_ald gM 0 81), (81, om_p (oc_ci (9) 83)), (83, om_p (oc_icmp_ne 90 86)), (86, om_p (oc_ci (1) 87)), (87, om_p (oc_goto 91)), (90, om_p (oc_ci (0) 91)), (91, om_p (oc_istore 3 92)), (92, om_p (oc_aload 0 93)), (93, om_getf gM 7 96), (96, om_p (oc_iload 4 98)), (98, om_p (oc_aload 0 99)), (99, om_getf gM 7 102), (102, om_p (oc_iload 4 104)), (104, om_ald gM 0 105), (105, om_p (oc_ci (9) 107)), (107, om_p (oc_icmp_ne 114 110)), (110, om_p (oc_ci (0) 111)), (111, om_p (oc_goto 123)), (114, om_p (oc_aload 0 115)), (115, om_getf gM 7 118), (118, om_p (oc_iload 4 120)), (120, om_ald gM 0 121), (121, om_p (oc_ci (1) 122)), (122, om_p (oc_iadd 123)), (123, om_ast gM 0 cs_i 124), (124, om_p (oc_iinc 4 (-1) 127)), (127, om_p (oc_goto 64)), (130, om_p (oc_iload 3 131)), (131, om_p (oc_ci (1) 132)), (132, om_p (oc_icmp_ne 185 135)), (135, om_p (oc_aload 0 136)), (136, om_getf gM 8 139), (139, om_p (oc_istore 5 141)), (141, om_p (oc_iload 5 143)), (143, om_p (oc_if_le 168 146)), (146, om_p (oc_aload 0 147)), (147, om_getf gM 7 150), (150, om_p (oc_iload 5 152)), (152, om_p (oc_aload 0 153)), (153, om_getf gM 7 156), (156, om_p (oc_iload 5 158)), (158, om_p (oc_ci (1) 159)), (159, om_p (oc_isub 160)), (160, om_ald gM 0 161), (161, om_ast gM 0 cs_i 162), (162, om_p (oc_iinc 5 (-1) 165)), (165, om_p (oc_goto 141)), (168, om_p (oc_aload 0 169)), (169, om_getf gM 7 172), (172, om_p (oc_ci (0) 173)), (173, om_p (oc_ci (1) 174)), (174, om_ast gM 0 cs_i 175), (175, om_p (oc_aload 0 176)), (176, om_p (oc_dup 177)), (177, om_getf gM 8 180), (180, om_p (oc_ci (1) 181)), (181, om_p (oc_iadd 182)), (182, om_puti gM 8 185), (185, om_p (oc_ci (1) 186)), (186, om_zret)]
set_option maxRecDepth 20000 in
theorem okm_Mo_cut {l : Launch} {B : zd_B} (hG : zd_G B) (hl : l.stackTraces = false) : ∀ q ∈ cm_Mo_cut l B, zm_ok l B gM m_Mo_cut q.1 q.2 := by
  unfold cm_Mo_cut
  refine zm_ac (om_pk nt_aload (ok_aload_n (l := l) (B := B) (y := m_Mo_cut) (pc := 0) (k := 0) rfl (zd_dr dc_Mo_cut 0 rfl))) ?_
  refine zm_ac (om_pk nt_iload (ok_iload_n (l := l) (B := B) (y := m_Mo_cut) (pc := 1) (k := 1) rfl (zd_dr dc_Mo_cut 1 rfl))) ?_
  refine zm_ac (om_pk nt_iload (ok_iload_n (l := l) (B := B) (y := m_Mo_cut) (pc := 2) (k := 2) rfl (zd_dr dc_Mo_cut 2 rfl))) ?_
  refine zm_ac (ok_mcallv rfl (ok_callv (l := l) (B := B) (y := m_Mo_cut) (pc := 3) hG (ci := 8) rfl cf_Mo_cut_Mo_grows rfl (List.mem_of_getElem? (i := 1072) (by decide +kernel)) (List.mem_of_getElem? (i := 1074) (by decide +kernel)) (List.mem_of_getElem? (i := 44) (by decide +kernel)) (zd_dr dc_Mo_cut 3 rfl))) ?_
  refine zm_ac (om_pk nt_istore (ok_istore_n (l := l) (B := B) (y := m_Mo_cut) (pc := 6) (k := 3) rfl (zd_dr dc_Mo_cut 4 rfl) (by decide))) ?_
  refine zm_ac (om_pk nt_iload (ok_iload_n (l := l) (B := B) (y := m_Mo_cut) (pc := 7) (k := 3) rfl (zd_dr dc_Mo_cut 5 rfl))) ?_
  refine zm_ac (om_pk nt_ci (ok_iconst (l := l) (B := B) (y := m_Mo_cut) (pc := 8) (n := (2)) (zd_dr dc_Mo_cut 6 rfl) rfl)) ?_
  refine zm_ac (om_pk nt_icmp_ne (ok_icmp_ne (l := l) (B := B) (y := m_Mo_cut) (pc := 9) (zd_dr dc_Mo_cut 7 rfl) (by decide))) ?_
  refine zm_ac (om_pk nt_aload (ok_aload_n (l := l) (B := B) (y := m_Mo_cut) (pc := 12) (k := 0) rfl (zd_dr dc_Mo_cut 8 rfl))) ?_
  refine zm_ac (om_pk nt_aload (ok_aload_n (l := l) (B := B) (y := m_Mo_cut) (pc := 13) (k := 0) rfl (zd_dr dc_Mo_cut 9 rfl))) ?_
  refine zm_ac (ok_mgetf rfl (ok_getf (l := l) (B := B) (y := m_Mo_cut) (pc := 14) hG (C := zR8) (T := zT8) (N := 21) (ci := 8) (k := 20) rfl zl8 (by decide) (List.mem_of_getElem? (i := 902) (by decide +kernel)) (zd_dr dc_Mo_cut 10 rfl))) ?_
  refine zm_ac (ok_mputi rfl (ok_putf (l := l) (B := B) (y := m_Mo_cut) (pc := 17) hG (C := zR8) (T := zT8) (N := 21) (ci := 8) (k := 0) rfl zl8 zt8 (by decide) (List.mem_of_getElem? (i := 882) (by decide +kernel)) rfl (zd_dr dc_Mo_cut 11 rfl))) ?_
  refine zm_ac (om_pk nt_ci (ok_iconst (l := l) (B := B) (y := m_Mo_cut) (pc := 20) (n := (0)) (zd_dr dc_Mo_cut 12 rfl) rfl)) ?_
  refine zm_ac (ok_mzret (ok_iret (l := l) (B := B) (y := m_Mo_cut) (pc := 21) rfl (zd_dr dc_Mo_cut 13 rfl))) ?_
  refine zm_ac (om_pk nt_aload (ok_aload_n (l := l) (B := B) (y := m_Mo_cut) (pc := 22) (k := 0) rfl (zd_dr dc_Mo_cut 14 rfl))) ?_
  refine zm_ac (om_pk nt_aload (ok_aload_n (l := l) (B := B) (y := m_Mo_cut) (pc := 23) (k := 0) rfl (zd_dr dc_Mo_cut 15 rfl))) ?_
  refine zm_ac (ok_mgetf rfl (ok_getf (l := l) (B := B) (y := m_Mo_cut) (pc := 24) hG (C := zR8) (T := zT8) (N := 21) (ci := 8) (k := 9) rfl zl8 (by decide) (List.mem_of_getElem? (i := 891) (by decide +kernel)) (zd_dr dc_Mo_cut 16 rfl))) ?_
  refine zm_ac (om_pk nt_aload (ok_aload_n (l := l) (B := B) (y := m_Mo_cut) (pc := 27) (k := 0) rfl (zd_dr dc_Mo_cut 17 rfl))) ?_
  refine zm_ac (ok_mgetf rfl (ok_getf (l := l) (B := B) (y := m_Mo_cut) (pc := 28) hG (C := zR8) (T := zT8) (N := 21) (ci := 8) (k := 8) rfl zl8 (by decide) (List.mem_of_getElem? (i := 890) (by decide +kernel)) (zd_dr dc_Mo_cut 18 rfl))) ?_
  refine zm_ac (om_pk nt_iload (ok_iload_n (l := l) (B := B) (y := m_Mo_cut) (pc := 31) (k := 1) rfl (zd_dr dc_Mo_cut 19 rfl))) ?_
  refine zm_ac (om_pk nt_isub (ok_isub (l := l) (B := B) (y := m_Mo_cut) (pc := 32) (zd_dr dc_Mo_cut 20 rfl))) ?_
  refine zm_ac (om_pk nt_i2l (ok_i2l (l := l) (B := B) (y := m_Mo_cut) (pc := 33) (zd_dr dc_Mo_cut 21 rfl))) ?_
  refine zm_ac (om_pk nt_lsub (ok_lsub (l := l) (B := B) (y := m_Mo_cut) (pc := 34) (zd_dr dc_Mo_cut 22 rfl))) ?_
  refine zm_ac (ok_mputl rfl (ok_putf (l := l) (B := B) (y := m_Mo_cut) (pc := 35) hG (C := zR8) (T := zT8) (N := 21) (ci := 8) (k := 9) rfl zl8 zt8 (by decide) (List.mem_of_getElem? (i := 891) (by decide +kernel)) rfl (zd_dr dc_Mo_cut 23 rfl))) ?_
  refine zm_ac (om_pk nt_aload (ok_aload_n (l := l) (B := B) (y := m_Mo_cut) (pc := 38) (k := 0) rfl (zd_dr dc_Mo_cut 24 rfl))) ?_
  refine zm_ac (om_pk nt_iload (ok_iload_n (l := l) (B := B) (y := m_Mo_cut) (pc := 39) (k := 1) rfl (zd_dr dc_Mo_cut 25 rfl))) ?_
  refine zm_ac (om_pk nt_if_ge (ok_if_ge (l := l) (B := B) (y := m_Mo_cut) (pc := 40) (zd_dr dc_Mo_cut 26 rfl) (by decide))) ?_
  refine zm_ac (om_pk nt_ci (ok_iconst (l := l) (B := B) (y := m_Mo_cut) (pc := 43) (n := (0)) (zd_dr dc_Mo_cut 27 rfl) rfl)) ?_
  refine zm_ac (om_pk nt_goto (ok_goto (l := l) (B := B) (y := m_Mo_cut) (pc := 44) (zd_dr dc_Mo_cut 28 rfl) (by decide))) ?_
  refine zm_ac (om_pk nt_iload (ok_iload_n (l := l) (B := B) (y := m_Mo_cut) (pc := 47) (k := 1) rfl (zd_dr dc_Mo_cut 29 rfl))) ?_
  refine zm_ac (ok_mputi rfl (ok_putf (l := l) (B := B) (y := m_Mo_cut) (pc := 48) hG (C := zR8) (T := zT8) (N := 21) (ci := 8) (k := 8) rfl zl8 zt8 (by decide) (List.mem_of_getElem? (i := 890) (by decide +kernel)) rfl (zd_dr dc_Mo_cut 30 rfl))) ?_
  refine zm_ac (om_pk nt_aload (ok_aload_n (l := l) (B := B) (y := m_Mo_cut) (pc := 51) (k := 0) rfl (zd_dr dc_Mo_cut 31 rfl))) ?_
  refine zm_ac (om_pk nt_ci (ok_iconst (l := l) (B := B) (y := m_Mo_cut) (pc := 52) (n := (0)) (zd_dr dc_Mo_cut 32 rfl) rfl)) ?_
  refine zm_ac (ok_mputb rfl (ok_putf (l := l) (B := B) (y := m_Mo_cut) (pc := 53) hG (C := zR8) (T := zT8) (N := 21) (ci := 8) (k := 10) rfl zl8 zt8 (by decide) (List.mem_of_getElem? (i := 892) (by decide +kernel)) rfl (zd_dr dc_Mo_cut 33 rfl))) ?_
  refine zm_ac (om_pk nt_aload (ok_aload_n (l := l) (B := B) (y := m_Mo_cut) (pc := 56) (k := 0) rfl (zd_dr dc_Mo_cut 34 rfl))) ?_
  refine zm_ac (ok_mgetf rfl (ok_getf (l := l) (B := B) (y := m_Mo_cut) (pc := 57) hG (C := zR8) (T := zT8) (N := 21) (ci := 8) (k := 8) rfl zl8 (by decide) (List.mem_of_getElem? (i := 890) (by decide +kernel)) (zd_dr dc_Mo_cut 35 rfl))) ?_
  refine zm_ac (om_pk nt_ci (ok_iconst (l := l) (B := B) (y := m_Mo_cut) (pc := 60) (n := (1)) (zd_dr dc_Mo_cut 36 rfl) rfl)) ?_
  refine zm_ac (om_pk nt_isub (ok_isub (l := l) (B := B) (y := m_Mo_cut) (pc := 61) (zd_dr dc_Mo_cut 37 rfl))) ?_
  refine zm_ac (om_pk nt_istore (ok_istore (l := l) (B := B) (y := m_Mo_cut) (pc := 62) (zd_dr dc_Mo_cut 38 rfl) (by decide))) ?_
  refine zm_ac (om_pk nt_iload (ok_iload_n (l := l) (B := B) (y := m_Mo_cut) (pc := 64) (k := 3) rfl (zd_dr dc_Mo_cut 39 rfl))) ?_
  refine zm_ac (om_pk nt_ci (ok_iconst (l := l) (B := B) (y := m_Mo_cut) (pc := 65) (n := (1)) (zd_dr dc_Mo_cut 40 rfl) rfl)) ?_
  refine zm_ac (om_pk nt_icmp_ne (ok_icmp_ne (l := l) (B := B) (y := m_Mo_cut) (pc := 66) (zd_dr dc_Mo_cut 41 rfl) (by decide))) ?_
  refine zm_ac (om_pk nt_iload (ok_iload (l := l) (B := B) (y := m_Mo_cut) (pc := 69) (zd_dr dc_Mo_cut 42 rfl))) ?_
  refine zm_ac (om_pk nt_if_lt (ok_if_lt (l := l) (B := B) (y := m_Mo_cut) (pc := 71) (zd_dr dc_Mo_cut 43 rfl) (by decide))) ?_
  refine zm_ac (om_pk nt_aload (ok_aload_n (l := l) (B := B) (y := m_Mo_cut) (pc := 74) (k := 0) rfl (zd_dr dc_Mo_cut 44 rfl))) ?_
  refine zm_ac (ok_mgetf rfl (ok_getf (l := l) (B := B) (y := m_Mo_cut) (pc := 75) hG (C := zR8) (T := zT8) (N := 21) (ci := 8) (k := 7) rfl zl8 (by decide) (List.mem_of_getElem? (i := 889) (by decide +kernel)) (zd_dr dc_Mo_cut 45 rfl))) ?_
  refine zm_ac (om_pk nt_iload (ok_iload (l := l) (B := B) (y := m_Mo_cut) (pc := 78) (zd_dr dc_Mo_cut 46 rfl))) ?_
  refine zm_ac (ok_miaload (ok_iaload (l := l) (B := B) (y := m_Mo_cut) (pc := 80) hG (zd_dr dc_Mo_cut 47 rfl))) ?_
  refine zm_ac (om_pk nt_ci (ok_bipush (l := l) (B := B) (y := m_Mo_cut) (pc := 81) (n := (9)) (zd_dr dc_Mo_cut 48 rfl) rfl)) ?_
  refine zm_ac (om_pk nt_icmp_ne (ok_icmp_ne (l := l) (B := B) (y := m_Mo_cut) (pc := 83) (zd_dr dc_Mo_cut 49 rfl) (by decide))) ?_
  refine zm_ac (om_pk nt_ci (ok_iconst (l := l) (B := B) (y := m_Mo_cut) (pc := 86) (n := (1)) (zd_dr dc_Mo_cut 50 rfl) rfl)) ?_
  refine zm_ac (om_pk nt_goto (ok_goto (l := l) (B := B) (y := m_Mo_cut) (pc := 87) (zd_dr dc_Mo_cut 51 rfl) (by decide))) ?_
  refine zm_ac (om_pk nt_ci (ok_iconst (l := l) (B := B) (y := m_Mo_cut) (pc := 90) (n := (0)) (zd_dr dc_Mo_cut 52 rfl) rfl)) ?_
  refine zm_ac (om_pk nt_istore (ok_istore_n (l := l) (B := B) (y := m_Mo_cut) (pc := 91) (k := 3) rfl (zd_dr dc_Mo_cut 53 rfl) (by decide))) ?_
  refine zm_ac (om_pk nt_aload (ok_aload_n (l := l) (B := B) (y := m_Mo_cut) (pc := 92) (k := 0) rfl (zd_dr dc_Mo_cut 54 rfl))) ?_
  refine zm_ac (ok_mgetf rfl (ok_getf (l := l) (B := B) (y := m_Mo_cut) (pc := 93) hG (C := zR8) (T := zT8) (N := 21) (ci := 8) (k := 7) rfl zl8 (by decide) (List.mem_of_getElem? (i := 889) (by decide +kernel)) (zd_dr dc_Mo_cut 55 rfl))) ?_
  refine zm_ac (om_pk nt_iload (ok_iload (l := l) (B := B) (y := m_Mo_cut) (pc := 96) (zd_dr dc_Mo_cut 56 rfl))) ?_
  refine zm_ac (om_pk nt_aload (ok_aload_n (l := l) (B := B) (y := m_Mo_cut) (pc := 98) (k := 0) rfl (zd_dr dc_Mo_cut 57 rfl))) ?_
  refine zm_ac (ok_mgetf rfl (ok_getf (l := l) (B := B) (y := m_Mo_cut) (pc := 99) hG (C := zR8) (T := zT8) (N := 21) (ci := 8) (k := 7) rfl zl8 (by decide) (List.mem_of_getElem? (i := 889) (by decide +kernel)) (zd_dr dc_Mo_cut 58 rfl))) ?_
  refine zm_ac (om_pk nt_iload (ok_iload (l := l) (B := B) (y := m_Mo_cut) (pc := 102) (zd_dr dc_Mo_cut 59 rfl))) ?_
  refine zm_ac (ok_miaload (ok_iaload (l := l) (B := B) (y := m_Mo_cut) (pc := 104) hG (zd_dr dc_Mo_cut 60 rfl))) ?_
  refine zm_ac (om_pk nt_ci (ok_bipush (l := l) (B := B) (y := m_Mo_cut) (pc := 105) (n := (9)) (zd_dr dc_Mo_cut 61 rfl) rfl)) ?_
  refine zm_ac (om_pk nt_icmp_ne (ok_icmp_ne (l := l) (B := B) (y := m_Mo_cut) (pc := 107) (zd_dr dc_Mo_cut 62 rfl) (by decide))) ?_
  refine zm_ac (om_pk nt_ci (ok_iconst (l := l) (B := B) (y := m_Mo_cut) (pc := 110) (n := (0)) (zd_dr dc_Mo_cut 63 rfl) rfl)) ?_
  refine zm_ac (om_pk nt_goto (ok_goto (l := l) (B := B) (y := m_Mo_cut) (pc := 111) (zd_dr dc_Mo_cut 64 rfl) (by decide))) ?_
  refine zm_ac (om_pk nt_aload (ok_aload_n (l := l) (B := B) (y := m_Mo_cut) (pc := 114) (k := 0) rfl (zd_dr dc_Mo_cut 65 rfl))) ?_
  refine zm_ac (ok_mgetf rfl (ok_getf (l := l) (B := B) (y := m_Mo_cut) (pc := 115) hG (C := zR8) (T := zT8) (N := 21) (ci := 8) (k := 7) rfl zl8 (by decide) (List.mem_of_getElem? (i := 889) (by decide +kernel)) (zd_dr dc_Mo_cut 66 rfl))) ?_
  refine zm_ac (om_pk nt_iload (ok_iload (l := l) (B := B) (y := m_Mo_cut) (pc := 118) (zd_dr dc_Mo_cut 67 rfl))) ?_
  refine zm_ac (ok_miaload (ok_iaload (l := l) (B := B) (y := m_Mo_cut) (pc := 120) hG (zd_dr dc_Mo_cut 68 rfl))) ?_
  refine zm_ac (om_pk nt_ci (ok_iconst (l := l) (B := B) (y := m_Mo_cut) (pc := 121) (n := (1)) (zd_dr dc_Mo_cut 69 rfl) rfl)) ?_
  refine zm_ac (om_pk nt_iadd (ok_iadd (l := l) (B := B) (y := m_Mo_cut) (pc := 122) (zd_dr dc_Mo_cut 70 rfl))) ?_
  refine zm_ac (ok_miastore (ok_iastore (l := l) (B := B) (y := m_Mo_cut) (pc := 123) hG (zd_dr dc_Mo_cut 71 rfl))) ?_
  refine zm_ac (om_pk nt_iinc (ok_iinc (l := l) (B := B) (y := m_Mo_cut) (pc := 124) (zd_dr dc_Mo_cut 72 rfl) (by decide) rfl)) ?_
  refine zm_ac (om_pk nt_goto (ok_goto (l := l) (B := B) (y := m_Mo_cut) (pc := 127) (zd_dr dc_Mo_cut 73 rfl) (by decide))) ?_
  refine zm_ac (om_pk nt_iload (ok_iload_n (l := l) (B := B) (y := m_Mo_cut) (pc := 130) (k := 3) rfl (zd_dr dc_Mo_cut 74 rfl))) ?_
  refine zm_ac (om_pk nt_ci (ok_iconst (l := l) (B := B) (y := m_Mo_cut) (pc := 131) (n := (1)) (zd_dr dc_Mo_cut 75 rfl) rfl)) ?_
  refine zm_ac (om_pk nt_icmp_ne (ok_icmp_ne (l := l) (B := B) (y := m_Mo_cut) (pc := 132) (zd_dr dc_Mo_cut 76 rfl) (by decide))) ?_
  refine zm_ac (om_pk nt_aload (ok_aload_n (l := l) (B := B) (y := m_Mo_cut) (pc := 135) (k := 0) rfl (zd_dr dc_Mo_cut 77 rfl))) ?_
  refine zm_ac (ok_mgetf rfl (ok_getf (l := l) (B := B) (y := m_Mo_cut) (pc := 136) hG (C := zR8) (T := zT8) (N := 21) (ci := 8) (k := 8) rfl zl8 (by decide) (List.mem_of_getElem? (i := 890) (by decide +kernel)) (zd_dr dc_Mo_cut 78 rfl))) ?_
  refine zm_ac (om_pk nt_istore (ok_istore (l := l) (B := B) (y := m_Mo_cut) (pc := 139) (zd_dr dc_Mo_cut 79 rfl) (by decide))) ?_
  refine zm_ac (om_pk nt_iload (ok_iload (l := l) (B := B) (y := m_Mo_cut) (pc := 141) (zd_dr dc_Mo_cut 80 rfl))) ?_
  refine zm_ac (om_pk nt_if_le (ok_if_le (l := l) (B := B) (y := m_Mo_cut) (pc := 143) (zd_dr dc_Mo_cut 81 rfl) (by decide))) ?_
  refine zm_ac (om_pk nt_aload (ok_aload_n (l := l) (B := B) (y := m_Mo_cut) (pc := 146) (k := 0) rfl (zd_dr dc_Mo_cut 82 rfl))) ?_
  refine zm_ac (ok_mgetf rfl (ok_getf (l := l) (B := B) (y := m_Mo_cut) (pc := 147) hG (C := zR8) (T := zT8) (N := 21) (ci := 8) (k := 7) rfl zl8 (by decide) (List.mem_of_getElem? (i := 889) (by decide +kernel)) (zd_dr dc_Mo_cut 83 rfl))) ?_
  refine zm_ac (om_pk nt_iload (ok_iload (l := l) (B := B) (y := m_Mo_cut) (pc := 150) (zd_dr dc_Mo_cut 84 rfl))) ?_
  refine zm_ac (om_pk nt_aload (ok_aload_n (l := l) (B := B) (y := m_Mo_cut) (pc := 152) (k := 0) rfl (zd_dr dc_Mo_cut 85 rfl))) ?_
  refine zm_ac (ok_mgetf rfl (ok_getf (l := l) (B := B) (y := m_Mo_cut) (pc := 153) hG (C := zR8) (T := zT8) (N := 21) (ci := 8) (k := 7) rfl zl8 (by decide) (List.mem_of_getElem? (i := 889) (by decide +kernel)) (zd_dr dc_Mo_cut 86 rfl))) ?_
  refine zm_ac (om_pk nt_iload (ok_iload (l := l) (B := B) (y := m_Mo_cut) (pc := 156) (zd_dr dc_Mo_cut 87 rfl))) ?_
  refine zm_ac (om_pk nt_ci (ok_iconst (l := l) (B := B) (y := m_Mo_cut) (pc := 158) (n := (1)) (zd_dr dc_Mo_cut 88 rfl) rfl)) ?_
  refine zm_ac (om_pk nt_isub (ok_isub (l := l) (B := B) (y := m_Mo_cut) (pc := 159) (zd_dr dc_Mo_cut 89 rfl))) ?_
  refine zm_ac (ok_miaload (ok_iaload (l := l) (B := B) (y := m_Mo_cut) (pc := 160) hG (zd_dr dc_Mo_cut 90 rfl))) ?_
  refine zm_ac (ok_miastore (ok_iastore (l := l) (B := B) (y := m_Mo_cut) (pc := 161) hG (zd_dr dc_Mo_cut 91 rfl))) ?_
  refine zm_ac (om_pk nt_iinc (ok_iinc (l := l) (B := B) (y := m_Mo_cut) (pc := 162) (zd_dr dc_Mo_cut 92 rfl) (by decide) rfl)) ?_
  refine zm_ac (om_pk nt_goto (ok_goto (l := l) (B := B) (y := m_Mo_cut) (pc := 165) (zd_dr dc_Mo_cut 93 rfl) (by decide))) ?_
  refine zm_ac (om_pk nt_aload (ok_aload_n (l := l) (B := B) (y := m_Mo_cut) (pc := 168) (k := 0) rfl (zd_dr dc_Mo_cut 94 rfl))) ?_
  refine zm_ac (ok_mgetf rfl (ok_getf (l := l) (B := B) (y := m_Mo_cut) (pc := 169) hG (C := zR8) (T := zT8) (N := 21) (ci := 8) (k := 7) rfl zl8 (by decide) (List.mem_of_getElem? (i := 889) (by decide +kernel)) (zd_dr dc_Mo_cut 95 rfl))) ?_
  refine zm_ac (om_pk nt_ci (ok_iconst (l := l) (B := B) (y := m_Mo_cut) (pc := 172) (n := (0)) (zd_dr dc_Mo_cut 96 rfl) rfl)) ?_
  refine zm_ac (om_pk nt_ci (ok_iconst (l := l) (B := B) (y := m_Mo_cut) (pc := 173) (n := (1)) (zd_dr dc_Mo_cut 97 rfl) rfl)) ?_
  refine zm_ac (ok_miastore (ok_iastore (l := l) (B := B) (y := m_Mo_cut) (pc := 174) hG (zd_dr dc_Mo_cut 98 rfl))) ?_
  refine zm_ac (om_pk nt_aload (ok_aload_n (l := l) (B := B) (y := m_Mo_cut) (pc := 175) (k := 0) rfl (zd_dr dc_Mo_cut 99 rfl))) ?_
  refine zm_ac (om_pk nt_dup (ok_dup (l := l) (B := B) (y := m_Mo_cut) (pc := 176) (zd_dr dc_Mo_cut 100 rfl))) ?_
  refine zm_ac (ok_mgetf rfl (ok_getf (l := l) (B := B) (y := m_Mo_cut) (pc := 177) hG (C := zR8) (T := zT8) (N := 21) (ci := 8) (k := 8) rfl zl8 (by decide) (List.mem_of_getElem? (i := 890) (by decide +kernel)) (zd_dr dc_Mo_cut 101 rfl))) ?_
  refine zm_ac (om_pk nt_ci (ok_iconst (l := l) (B := B) (y := m_Mo_cut) (pc := 180) (n := (1)) (zd_dr dc_Mo_cut 102 rfl) rfl)) ?_
  refine zm_ac (om_pk nt_iadd (ok_iadd (l := l) (B := B) (y := m_Mo_cut) (pc := 181) (zd_dr dc_Mo_cut 103 rfl))) ?_
  refine zm_ac (ok_mputi rfl (ok_putf (l := l) (B := B) (y := m_Mo_cut) (pc := 182) hG (C := zR8) (T := zT8) (N := 21) (ci := 8) (k := 8) rfl zl8 zt8 (by decide) (List.mem_of_getElem? (i := 890) (by decide +kernel)) rfl (zd_dr dc_Mo_cut 104 rfl))) ?_
  refine zm_ac (om_pk nt_ci (ok_iconst (l := l) (B := B) (y := m_Mo_cut) (pc := 185) (n := (1)) (zd_dr dc_Mo_cut 105 rfl) rfl)) ?_
  refine zm_ac (ok_mzret (ok_iret (l := l) (B := B) (y := m_Mo_cut) (pc := 186) rfl (zd_dr dc_Mo_cut 106 rfl))) ?_
  exact zm_an
def dl_Mo_lengthen : List (Nat × Instr × Nat) := [(0, .lconst 0, 1), (1, .lstore_n 3, 1), (2, .lload_n 3, 1), (3, .lload_n 1, 1), (4, .lcmp, 1), (5, .ifCond .ge (30), 3), (8, .aload_n 0, 1), (9, .getfield 26, 3), (12, .aload_n 0, 1), (13, .getfield 45, 3), (16, .iconst (0), 1), (17, .iastore, 1), (18, .aload_n 0, 1), (19, .dup, 1), (20, .getfield 45, 3), (23, .iconst (1), 1), (24, .iadd, 1), (25, .putfield 45, 3), (28, .lload_n 3, 1), (29, .lconst 1, 1), (30, .ladd, 1), (31, .lstore_n 3, 1), (32, .goto (-30), 3), (35, .aload_n 0, 1), (36, .aload_n 0, 1), (37, .getfield 48, 3), (40, .lload_n 1, 1), (41, .ladd, 1), (42, .putfield 48, 3), (45, .return_, 1)]
theorem dc_Mo_lengthen : ∀ q ∈ dl_Mo_lengthen, decode (zd_yb m_Mo_lengthen) q.1 = .ok q.2 := by decide +kernel
def cm_Mo_lengthen (l : Launch) (B : zd_B) : List (Nat × zm_S) := [(0, om_p (oc_cl 0 1)), (1, om_p (oc_lstore 3 2)), (2, om_p (oc_lload 3 3)), (3, om_p (oc_lload 1 4)), (4, om_p (oc_lcmp 5)), (5, om_p (oc_if_ge 35 8)), (8, om_p (oc_aload 0 9)), (9, om_getf gM 7 12), (12, om_p (oc_aload 0 13)), (13, om_getf gM 8 16), (16, om_p (oc_ci (0) 17)), (17, om_ast gM 0 cs_i 18), (18, om_p (oc_aload 0 19)), (19, om_p (oc_dup 20)), (20, om_getf gM 8 23), (23, om_p (oc_ci (1) 24)), (24, om_p (oc_iadd 25)), (25, om_puti gM 8 28), (28, om_p (oc_lload 3 29)), (29, om_p (oc_cl 1 30)), (30, om_p (oc_ladd 31)), (31, om_p (oc_lstore 3 32)), (32, om_p (oc_goto 2)), (35, om_p (oc_aload 0 36)), (36, om_p (oc_aload 0 37)), (37, om_getf gM 9 40), (40, om_p (oc_lload 1 41)), (41, om_p (oc_ladd 42)), (42, om_putl gM 9 45), (45, om_vret)]
set_option maxRecDepth 20000 in
theorem okm_Mo_lengthen {l : Launch} {B : zd_B} (hG : zd_G B) (hl : l.stackTraces = false) : ∀ q ∈ cm_Mo_lengthen l B, zm_ok l B gM m_Mo_lengthen q.1 q.2 := by
  unfold cm_Mo_lengthen
  refine zm_ac (om_pk nt_cl (ok_lconst (l := l) (B := B) (y := m_Mo_lengthen) (pc := 0) (n := 0) (zd_dr dc_Mo_lengthen 0 rfl) rfl)) ?_
  refine zm_ac (om_pk nt_lstore (ok_lstore_n (l := l) (B := B) (y := m_Mo_lengthen) (pc := 1) (k := 3) rfl (zd_dr dc_Mo_lengthen 1 rfl) (by decide))) ?_
  refine zm_ac (om_pk nt_lload (ok_lload_n (l := l) (B := B) (y := m_Mo_lengthen) (pc := 2) (k := 3) rfl (zd_dr dc_Mo_lengthen 2 rfl))) ?_
  refine zm_ac (om_pk nt_lload (ok_lload_n (l := l) (B := B) (y := m_Mo_lengthen) (pc := 3) (k := 1) rfl (zd_dr dc_Mo_lengthen 3 rfl))) ?_
  refine zm_ac (om_pk nt_lcmp (ok_lcmp (l := l) (B := B) (y := m_Mo_lengthen) (pc := 4) (zd_dr dc_Mo_lengthen 4 rfl))) ?_
  refine zm_ac (om_pk nt_if_ge (ok_if_ge (l := l) (B := B) (y := m_Mo_lengthen) (pc := 5) (zd_dr dc_Mo_lengthen 5 rfl) (by decide))) ?_
  refine zm_ac (om_pk nt_aload (ok_aload_n (l := l) (B := B) (y := m_Mo_lengthen) (pc := 8) (k := 0) rfl (zd_dr dc_Mo_lengthen 6 rfl))) ?_
  refine zm_ac (ok_mgetf rfl (ok_getf (l := l) (B := B) (y := m_Mo_lengthen) (pc := 9) hG (C := zR8) (T := zT8) (N := 21) (ci := 8) (k := 7) rfl zl8 (by decide) (List.mem_of_getElem? (i := 889) (by decide +kernel)) (zd_dr dc_Mo_lengthen 7 rfl))) ?_
  refine zm_ac (om_pk nt_aload (ok_aload_n (l := l) (B := B) (y := m_Mo_lengthen) (pc := 12) (k := 0) rfl (zd_dr dc_Mo_lengthen 8 rfl))) ?_
  refine zm_ac (ok_mgetf rfl (ok_getf (l := l) (B := B) (y := m_Mo_lengthen) (pc := 13) hG (C := zR8) (T := zT8) (N := 21) (ci := 8) (k := 8) rfl zl8 (by decide) (List.mem_of_getElem? (i := 890) (by decide +kernel)) (zd_dr dc_Mo_lengthen 9 rfl))) ?_
  refine zm_ac (om_pk nt_ci (ok_iconst (l := l) (B := B) (y := m_Mo_lengthen) (pc := 16) (n := (0)) (zd_dr dc_Mo_lengthen 10 rfl) rfl)) ?_
  refine zm_ac (ok_miastore (ok_iastore (l := l) (B := B) (y := m_Mo_lengthen) (pc := 17) hG (zd_dr dc_Mo_lengthen 11 rfl))) ?_
  refine zm_ac (om_pk nt_aload (ok_aload_n (l := l) (B := B) (y := m_Mo_lengthen) (pc := 18) (k := 0) rfl (zd_dr dc_Mo_lengthen 12 rfl))) ?_
  refine zm_ac (om_pk nt_dup (ok_dup (l := l) (B := B) (y := m_Mo_lengthen) (pc := 19) (zd_dr dc_Mo_lengthen 13 rfl))) ?_
  refine zm_ac (ok_mgetf rfl (ok_getf (l := l) (B := B) (y := m_Mo_lengthen) (pc := 20) hG (C := zR8) (T := zT8) (N := 21) (ci := 8) (k := 8) rfl zl8 (by decide) (List.mem_of_getElem? (i := 890) (by decide +kernel)) (zd_dr dc_Mo_lengthen 14 rfl))) ?_
  refine zm_ac (om_pk nt_ci (ok_iconst (l := l) (B := B) (y := m_Mo_lengthen) (pc := 23) (n := (1)) (zd_dr dc_Mo_lengthen 15 rfl) rfl)) ?_
  refine zm_ac (om_pk nt_iadd (ok_iadd (l := l) (B := B) (y := m_Mo_lengthen) (pc := 24) (zd_dr dc_Mo_lengthen 16 rfl))) ?_
  refine zm_ac (ok_mputi rfl (ok_putf (l := l) (B := B) (y := m_Mo_lengthen) (pc := 25) hG (C := zR8) (T := zT8) (N := 21) (ci := 8) (k := 8) rfl zl8 zt8 (by decide) (List.mem_of_getElem? (i := 890) (by decide +kernel)) rfl (zd_dr dc_Mo_lengthen 17 rfl))) ?_
  refine zm_ac (om_pk nt_lload (ok_lload_n (l := l) (B := B) (y := m_Mo_lengthen) (pc := 28) (k := 3) rfl (zd_dr dc_Mo_lengthen 18 rfl))) ?_
  refine zm_ac (om_pk nt_cl (ok_lconst (l := l) (B := B) (y := m_Mo_lengthen) (pc := 29) (n := 1) (zd_dr dc_Mo_lengthen 19 rfl) rfl)) ?_
  refine zm_ac (om_pk nt_ladd (ok_ladd (l := l) (B := B) (y := m_Mo_lengthen) (pc := 30) (zd_dr dc_Mo_lengthen 20 rfl))) ?_
  refine zm_ac (om_pk nt_lstore (ok_lstore_n (l := l) (B := B) (y := m_Mo_lengthen) (pc := 31) (k := 3) rfl (zd_dr dc_Mo_lengthen 21 rfl) (by decide))) ?_
  refine zm_ac (om_pk nt_goto (ok_goto (l := l) (B := B) (y := m_Mo_lengthen) (pc := 32) (zd_dr dc_Mo_lengthen 22 rfl) (by decide))) ?_
  refine zm_ac (om_pk nt_aload (ok_aload_n (l := l) (B := B) (y := m_Mo_lengthen) (pc := 35) (k := 0) rfl (zd_dr dc_Mo_lengthen 23 rfl))) ?_
  refine zm_ac (om_pk nt_aload (ok_aload_n (l := l) (B := B) (y := m_Mo_lengthen) (pc := 36) (k := 0) rfl (zd_dr dc_Mo_lengthen 24 rfl))) ?_
  refine zm_ac (ok_mgetf rfl (ok_getf (l := l) (B := B) (y := m_Mo_lengthen) (pc := 37) hG (C := zR8) (T := zT8) (N := 21) (ci := 8) (k := 9) rfl zl8 (by decide) (List.mem_of_getElem? (i := 891) (by decide +kernel)) (zd_dr dc_Mo_lengthen 25 rfl))) ?_
  refine zm_ac (om_pk nt_lload (ok_lload_n (l := l) (B := B) (y := m_Mo_lengthen) (pc := 40) (k := 1) rfl (zd_dr dc_Mo_lengthen 26 rfl))) ?_
  refine zm_ac (om_pk nt_ladd (ok_ladd (l := l) (B := B) (y := m_Mo_lengthen) (pc := 41) (zd_dr dc_Mo_lengthen 27 rfl))) ?_
  refine zm_ac (ok_mputl rfl (ok_putf (l := l) (B := B) (y := m_Mo_lengthen) (pc := 42) hG (C := zR8) (T := zT8) (N := 21) (ci := 8) (k := 9) rfl zl8 zt8 (by decide) (List.mem_of_getElem? (i := 891) (by decide +kernel)) rfl (zd_dr dc_Mo_lengthen 28 rfl))) ?_
  refine zm_ac (ok_mvret (ok_vret (l := l) (B := B) (y := m_Mo_lengthen) (pc := 45) rfl (zd_dr dc_Mo_lengthen 29 rfl))) ?_
  exact zm_an
def dl_Mo_bring : List (Nat × Instr × Nat) := [(0, .aload_n 0, 1), (1, .invokevirtual 59, 3), (4, .aload_n 0, 1), (5, .getfield 26, 3), (8, .iconst (0), 1), (9, .iaload, 1), (10, .ifCond .ne (18), 3), (13, .aload_n 0, 1), (14, .getfield 52, 3), (17, .ifCond .ne (11), 3), (20, .aload_n 0, 1), (21, .lload_n 1, 1), (22, .putfield 48, 3), (25, .goto (91), 3), (28, .lload_n 1, 1), (29, .aload_n 0, 1), (30, .getfield 48, 3), (33, .lcmp, 1), (34, .ifCond .lt (38), 3), (37, .lload_n 1, 1), (38, .aload_n 0, 1), (39, .getfield 48, 3), (42, .lsub, 1), (43, .ldc2_w 77, 3), (46, .lcmp, 1), (47, .ifCond .le (12), 3), (50, .aload_n 0, 1), (51, .aload_n 0, 1), (52, .getfield 66, 3), (55, .putfield 41, 3), (58, .return_, 1), (59, .aload_n 0, 1), (60, .lload_n 1, 1), (61, .aload_n 0, 1), (62, .getfield 48, 3), (65, .lsub, 1), (66, .invokevirtual 79, 3), (69, .goto (47), 3), (72, .aload_n 0, 1), (73, .getfield 45, 3), (76, .i2l, 1), (77, .aload_n 0, 1), (78, .getfield 48, 3), (81, .lload_n 1, 1), (82, .lsub, 1), (83, .lsub, 1), (84, .lstore 5, 2), (86, .aload_n 0, 1), (87, .lload 5, 2), (89, .ldc2_w 83, 3), (92, .lcmp, 1), (93, .ifCond .ge (7), 3), (96, .iconst (-1), 1), (97, .goto (6), 3), (100, .lload 5, 2), (102, .l2i, 1), (103, .iload_n 3, 1), (104, .invokevirtual 85, 3), (107, .ifCond .ne (4), 3), (110, .return_, 1), (111, .aload_n 0, 1), (112, .lload_n 1, 1), (113, .putfield 48, 3), (116, .aload_n 0, 1), (117, .iload 4, 2), (119, .invokevirtual 89, 3), (122, .return_, 1)]
theorem dc_Mo_bring : ∀ q ∈ dl_Mo_bring, decode (zd_yb m_Mo_bring) q.1 = .ok q.2 := by decide +kernel
def cm_Mo_bring (l : Launch) (B : zd_B) : List (Nat × zm_S) := [(0, om_p (oc_aload 0 1)), (1, om_callv l B gM m_Mo_trim 0 4), (4, om_p (oc_aload 0 5)), (5, om_getf gM 7 8), (8, om_p (oc_ci (0) 9)), (9, om_ald gM 0 10), (10, om_p (oc_if_ne 28 13)), (13, om_p (oc_aload 0 14)), (14, om_getf gM 10 17), (17, om_p (oc_if_ne 28 20)), (20, om_p (oc_aload 0 21)), (21, om_p (oc_lload 1 22)), (22, om_putl gM 9 25), (25, om_p (oc_goto 116)), (28, om_p (oc_lload 1 29)), (29, om_p (oc_aload 0 30)), (30, om_getf gM 9 33), (33, om_p (oc_lcmp 34)), (34, om_p (oc_if_lt 72 37)), (37, om_p (oc_lload 1 38)), (38, om_p (oc_aload 0 39)), (39, om_getf gM 9 42), (42, om_p (oc_lsub 43)), (43, om_p (oc_cl (1000) 46)), (46, om_p (oc_lcmp 47)), (47, om_p (oc_if_le 59 50)), (50, om_p (oc_aload 0 51)), (51, om_p (oc_aload 0 52)), (52, om_getf gM 20 55), (55, om_puti gM 0 58), (58, om_vret), (59, om_p (oc_aload 0 60)), (60, om_p (oc_lload 1 61)), (61, om_p (oc_aload 0 62)), (62, om_getf gM 9 65), (65, om_p (oc_lsub 66)), (66, om_callv l B gM m_Mo_lengthen 1 69), (69, om_p (oc_goto 116)), (72, om_p (oc_aload 0 73)), (73, om_getf gM 8 76), (76, om_p (oc_i2l 77)), (77, om_p (oc_aload 0 78)), (78, om_getf gM 9 81), (81, om_p (oc_lload 1 82)), (82, om_p (oc_lsub 83)), (83, om_p (oc_lsub 84)), (84, om_p (oc_lstore 5 86)), (86, om_p (oc_aload 0 87)), (87, om_p (oc_lload 5 89)), (89, om_p (oc_cl (-1) 92)), (92, om_p (oc_lcmp 93)), (93, om_p (oc_if_ge 100 96)), (96, om_p (oc_ci (-1) 97)), (97, om_p (oc_goto 103)), (100, om_p (oc_lload 5 102)), (102, om_p (oc_l2i 103)), (103, om_p (oc_iload 3 104)), (104, om_callv l B gM m_Mo_cut 2 107), (107, om_p (oc_if_ne 111 110)), (110, om_vret), (111, om_p (oc_aload 0 112)), (112, om_p (oc_lload 1 113)), (113, om_putl gM 9 116), (116, om_p (oc_aload 0 117)), (117, om_p (oc_iload 4 119)), (119, om_callv l B gM m_Mo_store 1 122), (122, om_vret)]
set_option maxRecDepth 20000 in
theorem okm_Mo_bring {l : Launch} {B : zd_B} (hG : zd_G B) (hl : l.stackTraces = false) : ∀ q ∈ cm_Mo_bring l B, zm_ok l B gM m_Mo_bring q.1 q.2 := by
  unfold cm_Mo_bring
  refine zm_ac (om_pk nt_aload (ok_aload_n (l := l) (B := B) (y := m_Mo_bring) (pc := 0) (k := 0) rfl (zd_dr dc_Mo_bring 0 rfl))) ?_
  refine zm_ac (ok_mcallv rfl (ok_callv (l := l) (B := B) (y := m_Mo_bring) (pc := 1) hG (ci := 8) rfl cf_Mo_bring_Mo_trim rfl (List.mem_of_getElem? (i := 984) (by decide +kernel)) (List.mem_of_getElem? (i := 986) (by decide +kernel)) (List.mem_of_getElem? (i := 30) (by decide +kernel)) (zd_dr dc_Mo_bring 1 rfl))) ?_
  refine zm_ac (om_pk nt_aload (ok_aload_n (l := l) (B := B) (y := m_Mo_bring) (pc := 4) (k := 0) rfl (zd_dr dc_Mo_bring 2 rfl))) ?_
  refine zm_ac (ok_mgetf rfl (ok_getf (l := l) (B := B) (y := m_Mo_bring) (pc := 5) hG (C := zR8) (T := zT8) (N := 21) (ci := 8) (k := 7) rfl zl8 (by decide) (List.mem_of_getElem? (i := 889) (by decide +kernel)) (zd_dr dc_Mo_bring 3 rfl))) ?_
  refine zm_ac (om_pk nt_ci (ok_iconst (l := l) (B := B) (y := m_Mo_bring) (pc := 8) (n := (0)) (zd_dr dc_Mo_bring 4 rfl) rfl)) ?_
  refine zm_ac (ok_miaload (ok_iaload (l := l) (B := B) (y := m_Mo_bring) (pc := 9) hG (zd_dr dc_Mo_bring 5 rfl))) ?_
  refine zm_ac (om_pk nt_if_ne (ok_if_ne (l := l) (B := B) (y := m_Mo_bring) (pc := 10) (zd_dr dc_Mo_bring 6 rfl) (by decide))) ?_
  refine zm_ac (om_pk nt_aload (ok_aload_n (l := l) (B := B) (y := m_Mo_bring) (pc := 13) (k := 0) rfl (zd_dr dc_Mo_bring 7 rfl))) ?_
  refine zm_ac (ok_mgetf rfl (ok_getf (l := l) (B := B) (y := m_Mo_bring) (pc := 14) hG (C := zR8) (T := zT8) (N := 21) (ci := 8) (k := 10) rfl zl8 (by decide) (List.mem_of_getElem? (i := 892) (by decide +kernel)) (zd_dr dc_Mo_bring 8 rfl))) ?_
  refine zm_ac (om_pk nt_if_ne (ok_if_ne (l := l) (B := B) (y := m_Mo_bring) (pc := 17) (zd_dr dc_Mo_bring 9 rfl) (by decide))) ?_
  refine zm_ac (om_pk nt_aload (ok_aload_n (l := l) (B := B) (y := m_Mo_bring) (pc := 20) (k := 0) rfl (zd_dr dc_Mo_bring 10 rfl))) ?_
  refine zm_ac (om_pk nt_lload (ok_lload_n (l := l) (B := B) (y := m_Mo_bring) (pc := 21) (k := 1) rfl (zd_dr dc_Mo_bring 11 rfl))) ?_
  refine zm_ac (ok_mputl rfl (ok_putf (l := l) (B := B) (y := m_Mo_bring) (pc := 22) hG (C := zR8) (T := zT8) (N := 21) (ci := 8) (k := 9) rfl zl8 zt8 (by decide) (List.mem_of_getElem? (i := 891) (by decide +kernel)) rfl (zd_dr dc_Mo_bring 12 rfl))) ?_
  refine zm_ac (om_pk nt_goto (ok_goto (l := l) (B := B) (y := m_Mo_bring) (pc := 25) (zd_dr dc_Mo_bring 13 rfl) (by decide))) ?_
  refine zm_ac (om_pk nt_lload (ok_lload_n (l := l) (B := B) (y := m_Mo_bring) (pc := 28) (k := 1) rfl (zd_dr dc_Mo_bring 14 rfl))) ?_
  refine zm_ac (om_pk nt_aload (ok_aload_n (l := l) (B := B) (y := m_Mo_bring) (pc := 29) (k := 0) rfl (zd_dr dc_Mo_bring 15 rfl))) ?_
  refine zm_ac (ok_mgetf rfl (ok_getf (l := l) (B := B) (y := m_Mo_bring) (pc := 30) hG (C := zR8) (T := zT8) (N := 21) (ci := 8) (k := 9) rfl zl8 (by decide) (List.mem_of_getElem? (i := 891) (by decide +kernel)) (zd_dr dc_Mo_bring 16 rfl))) ?_
  refine zm_ac (om_pk nt_lcmp (ok_lcmp (l := l) (B := B) (y := m_Mo_bring) (pc := 33) (zd_dr dc_Mo_bring 17 rfl))) ?_
  refine zm_ac (om_pk nt_if_lt (ok_if_lt (l := l) (B := B) (y := m_Mo_bring) (pc := 34) (zd_dr dc_Mo_bring 18 rfl) (by decide))) ?_
  refine zm_ac (om_pk nt_lload (ok_lload_n (l := l) (B := B) (y := m_Mo_bring) (pc := 37) (k := 1) rfl (zd_dr dc_Mo_bring 19 rfl))) ?_
  refine zm_ac (om_pk nt_aload (ok_aload_n (l := l) (B := B) (y := m_Mo_bring) (pc := 38) (k := 0) rfl (zd_dr dc_Mo_bring 20 rfl))) ?_
  refine zm_ac (ok_mgetf rfl (ok_getf (l := l) (B := B) (y := m_Mo_bring) (pc := 39) hG (C := zR8) (T := zT8) (N := 21) (ci := 8) (k := 9) rfl zl8 (by decide) (List.mem_of_getElem? (i := 891) (by decide +kernel)) (zd_dr dc_Mo_bring 21 rfl))) ?_
  refine zm_ac (om_pk nt_lsub (ok_lsub (l := l) (B := B) (y := m_Mo_bring) (pc := 42) (zd_dr dc_Mo_bring 22 rfl))) ?_
  refine zm_ac (om_pk nt_cl (ok_ldc2 (l := l) (B := B) (y := m_Mo_bring) (pc := 43) hG (List.mem_of_getElem? (i := 1038) (by decide +kernel)) (zd_dr dc_Mo_bring 23 rfl))) ?_
  refine zm_ac (om_pk nt_lcmp (ok_lcmp (l := l) (B := B) (y := m_Mo_bring) (pc := 46) (zd_dr dc_Mo_bring 24 rfl))) ?_
  refine zm_ac (om_pk nt_if_le (ok_if_le (l := l) (B := B) (y := m_Mo_bring) (pc := 47) (zd_dr dc_Mo_bring 25 rfl) (by decide))) ?_
  refine zm_ac (om_pk nt_aload (ok_aload_n (l := l) (B := B) (y := m_Mo_bring) (pc := 50) (k := 0) rfl (zd_dr dc_Mo_bring 26 rfl))) ?_
  refine zm_ac (om_pk nt_aload (ok_aload_n (l := l) (B := B) (y := m_Mo_bring) (pc := 51) (k := 0) rfl (zd_dr dc_Mo_bring 27 rfl))) ?_
  refine zm_ac (ok_mgetf rfl (ok_getf (l := l) (B := B) (y := m_Mo_bring) (pc := 52) hG (C := zR8) (T := zT8) (N := 21) (ci := 8) (k := 20) rfl zl8 (by decide) (List.mem_of_getElem? (i := 902) (by decide +kernel)) (zd_dr dc_Mo_bring 28 rfl))) ?_
  refine zm_ac (ok_mputi rfl (ok_putf (l := l) (B := B) (y := m_Mo_bring) (pc := 55) hG (C := zR8) (T := zT8) (N := 21) (ci := 8) (k := 0) rfl zl8 zt8 (by decide) (List.mem_of_getElem? (i := 882) (by decide +kernel)) rfl (zd_dr dc_Mo_bring 29 rfl))) ?_
  refine zm_ac (ok_mvret (ok_vret (l := l) (B := B) (y := m_Mo_bring) (pc := 58) rfl (zd_dr dc_Mo_bring 30 rfl))) ?_
  refine zm_ac (om_pk nt_aload (ok_aload_n (l := l) (B := B) (y := m_Mo_bring) (pc := 59) (k := 0) rfl (zd_dr dc_Mo_bring 31 rfl))) ?_
  refine zm_ac (om_pk nt_lload (ok_lload_n (l := l) (B := B) (y := m_Mo_bring) (pc := 60) (k := 1) rfl (zd_dr dc_Mo_bring 32 rfl))) ?_
  refine zm_ac (om_pk nt_aload (ok_aload_n (l := l) (B := B) (y := m_Mo_bring) (pc := 61) (k := 0) rfl (zd_dr dc_Mo_bring 33 rfl))) ?_
  refine zm_ac (ok_mgetf rfl (ok_getf (l := l) (B := B) (y := m_Mo_bring) (pc := 62) hG (C := zR8) (T := zT8) (N := 21) (ci := 8) (k := 9) rfl zl8 (by decide) (List.mem_of_getElem? (i := 891) (by decide +kernel)) (zd_dr dc_Mo_bring 34 rfl))) ?_
  refine zm_ac (om_pk nt_lsub (ok_lsub (l := l) (B := B) (y := m_Mo_bring) (pc := 65) (zd_dr dc_Mo_bring 35 rfl))) ?_
  refine zm_ac (ok_mcallv rfl (ok_callv (l := l) (B := B) (y := m_Mo_bring) (pc := 66) hG (ci := 8) rfl cf_Mo_bring_Mo_lengthen rfl (List.mem_of_getElem? (i := 1092) (by decide +kernel)) (List.mem_of_getElem? (i := 1094) (by decide +kernel)) (List.mem_of_getElem? (i := 48) (by decide +kernel)) (zd_dr dc_Mo_bring 36 rfl))) ?_
  refine zm_ac (om_pk nt_goto (ok_goto (l := l) (B := B) (y := m_Mo_bring) (pc := 69) (zd_dr dc_Mo_bring 37 rfl) (by decide))) ?_
  refine zm_ac (om_pk nt_aload (ok_aload_n (l := l) (B := B) (y := m_Mo_bring) (pc := 72) (k := 0) rfl (zd_dr dc_Mo_bring 38 rfl))) ?_
  refine zm_ac (ok_mgetf rfl (ok_getf (l := l) (B := B) (y := m_Mo_bring) (pc := 73) hG (C := zR8) (T := zT8) (N := 21) (ci := 8) (k := 8) rfl zl8 (by decide) (List.mem_of_getElem? (i := 890) (by decide +kernel)) (zd_dr dc_Mo_bring 39 rfl))) ?_
  refine zm_ac (om_pk nt_i2l (ok_i2l (l := l) (B := B) (y := m_Mo_bring) (pc := 76) (zd_dr dc_Mo_bring 40 rfl))) ?_
  refine zm_ac (om_pk nt_aload (ok_aload_n (l := l) (B := B) (y := m_Mo_bring) (pc := 77) (k := 0) rfl (zd_dr dc_Mo_bring 41 rfl))) ?_
  refine zm_ac (ok_mgetf rfl (ok_getf (l := l) (B := B) (y := m_Mo_bring) (pc := 78) hG (C := zR8) (T := zT8) (N := 21) (ci := 8) (k := 9) rfl zl8 (by decide) (List.mem_of_getElem? (i := 891) (by decide +kernel)) (zd_dr dc_Mo_bring 42 rfl))) ?_
  refine zm_ac (om_pk nt_lload (ok_lload_n (l := l) (B := B) (y := m_Mo_bring) (pc := 81) (k := 1) rfl (zd_dr dc_Mo_bring 43 rfl))) ?_
  refine zm_ac (om_pk nt_lsub (ok_lsub (l := l) (B := B) (y := m_Mo_bring) (pc := 82) (zd_dr dc_Mo_bring 44 rfl))) ?_
  refine zm_ac (om_pk nt_lsub (ok_lsub (l := l) (B := B) (y := m_Mo_bring) (pc := 83) (zd_dr dc_Mo_bring 45 rfl))) ?_
  refine zm_ac (om_pk nt_lstore (ok_lstore (l := l) (B := B) (y := m_Mo_bring) (pc := 84) (zd_dr dc_Mo_bring 46 rfl) (by decide))) ?_
  refine zm_ac (om_pk nt_aload (ok_aload_n (l := l) (B := B) (y := m_Mo_bring) (pc := 86) (k := 0) rfl (zd_dr dc_Mo_bring 47 rfl))) ?_
  refine zm_ac (om_pk nt_lload (ok_lload (l := l) (B := B) (y := m_Mo_bring) (pc := 87) (zd_dr dc_Mo_bring 48 rfl))) ?_
  refine zm_ac (om_pk nt_cl (ok_ldc2 (l := l) (B := B) (y := m_Mo_bring) (pc := 89) hG (List.mem_of_getElem? (i := 1039) (by decide +kernel)) (zd_dr dc_Mo_bring 49 rfl))) ?_
  refine zm_ac (om_pk nt_lcmp (ok_lcmp (l := l) (B := B) (y := m_Mo_bring) (pc := 92) (zd_dr dc_Mo_bring 50 rfl))) ?_
  refine zm_ac (om_pk nt_if_ge (ok_if_ge (l := l) (B := B) (y := m_Mo_bring) (pc := 93) (zd_dr dc_Mo_bring 51 rfl) (by decide))) ?_
  refine zm_ac (om_pk nt_ci (ok_iconst (l := l) (B := B) (y := m_Mo_bring) (pc := 96) (n := (-1)) (zd_dr dc_Mo_bring 52 rfl) rfl)) ?_
  refine zm_ac (om_pk nt_goto (ok_goto (l := l) (B := B) (y := m_Mo_bring) (pc := 97) (zd_dr dc_Mo_bring 53 rfl) (by decide))) ?_
  refine zm_ac (om_pk nt_lload (ok_lload (l := l) (B := B) (y := m_Mo_bring) (pc := 100) (zd_dr dc_Mo_bring 54 rfl))) ?_
  refine zm_ac (om_pk nt_l2i (ok_l2i (l := l) (B := B) (y := m_Mo_bring) (pc := 102) (zd_dr dc_Mo_bring 55 rfl))) ?_
  refine zm_ac (om_pk nt_iload (ok_iload_n (l := l) (B := B) (y := m_Mo_bring) (pc := 103) (k := 3) rfl (zd_dr dc_Mo_bring 56 rfl))) ?_
  refine zm_ac (ok_mcallv rfl (ok_callv (l := l) (B := B) (y := m_Mo_bring) (pc := 104) hG (ci := 8) rfl cf_Mo_bring_Mo_cut rfl (List.mem_of_getElem? (i := 1068) (by decide +kernel)) (List.mem_of_getElem? (i := 1070) (by decide +kernel)) (List.mem_of_getElem? (i := 43) (by decide +kernel)) (zd_dr dc_Mo_bring 57 rfl))) ?_
  refine zm_ac (om_pk nt_if_ne (ok_if_ne (l := l) (B := B) (y := m_Mo_bring) (pc := 107) (zd_dr dc_Mo_bring 58 rfl) (by decide))) ?_
  refine zm_ac (ok_mvret (ok_vret (l := l) (B := B) (y := m_Mo_bring) (pc := 110) rfl (zd_dr dc_Mo_bring 59 rfl))) ?_
  refine zm_ac (om_pk nt_aload (ok_aload_n (l := l) (B := B) (y := m_Mo_bring) (pc := 111) (k := 0) rfl (zd_dr dc_Mo_bring 60 rfl))) ?_
  refine zm_ac (om_pk nt_lload (ok_lload_n (l := l) (B := B) (y := m_Mo_bring) (pc := 112) (k := 1) rfl (zd_dr dc_Mo_bring 61 rfl))) ?_
  refine zm_ac (ok_mputl rfl (ok_putf (l := l) (B := B) (y := m_Mo_bring) (pc := 113) hG (C := zR8) (T := zT8) (N := 21) (ci := 8) (k := 9) rfl zl8 zt8 (by decide) (List.mem_of_getElem? (i := 891) (by decide +kernel)) rfl (zd_dr dc_Mo_bring 62 rfl))) ?_
  refine zm_ac (om_pk nt_aload (ok_aload_n (l := l) (B := B) (y := m_Mo_bring) (pc := 116) (k := 0) rfl (zd_dr dc_Mo_bring 63 rfl))) ?_
  refine zm_ac (om_pk nt_iload (ok_iload (l := l) (B := B) (y := m_Mo_bring) (pc := 117) (zd_dr dc_Mo_bring 64 rfl))) ?_
  refine zm_ac (ok_mcallv rfl (ok_callv (l := l) (B := B) (y := m_Mo_bring) (pc := 119) hG (ci := 8) rfl cf_Mo_bring_Mo_store rfl (List.mem_of_getElem? (i := 980) (by decide +kernel)) (List.mem_of_getElem? (i := 982) (by decide +kernel)) (List.mem_of_getElem? (i := 29) (by decide +kernel)) (zd_dr dc_Mo_bring 65 rfl))) ?_
  refine zm_ac (ok_mvret (ok_vret (l := l) (B := B) (y := m_Mo_bring) (pc := 122) rfl (zd_dr dc_Mo_bring 66 rfl))) ?_
  exact zm_an
def dl_Mo_needed : List (Nat × Instr × Nat) := [(0, .aload_n 0, 1), (1, .getfield 45, 3), (4, .istore_n 1, 1), (5, .iload_n 1, 1), (6, .iconst (1), 1), (7, .if_icmp .le (20), 3), (10, .aload_n 0, 1), (11, .getfield 26, 3), (14, .iload_n 1, 1), (15, .iconst (1), 1), (16, .isub, 1), (17, .iaload, 1), (18, .ifCond .ne (9), 3), (21, .iinc 1 (-1), 3), (24, .goto (-19), 3), (27, .iload_n 1, 1), (28, .ireturn, 1)]
theorem dc_Mo_needed : ∀ q ∈ dl_Mo_needed, decode (zd_yb m_Mo_needed) q.1 = .ok q.2 := by decide +kernel
def cm_Mo_needed (l : Launch) (B : zd_B) : List (Nat × zm_S) := [(0, om_p (oc_aload 0 1)), (1, om_getf gM 8 4), (4, om_p (oc_istore 1 5)), (5, om_p (oc_iload 1 6)), (6, om_p (oc_ci (1) 7)), (7, om_p (oc_icmp_le 27 10)), (10, om_p (oc_aload 0 11)), (11, om_getf gM 7 14), (14, om_p (oc_iload 1 15)), (15, om_p (oc_ci (1) 16)), (16, om_p (oc_isub 17)), (17, om_ald gM 0 18), (18, om_p (oc_if_ne 27 21)), (21, om_p (oc_iinc 1 (-1) 24)), (24, om_p (oc_goto 5)), (27, om_p (oc_iload 1 28)), (28, om_iret)]
set_option maxRecDepth 20000 in
theorem okm_Mo_needed {l : Launch} {B : zd_B} (hG : zd_G B) (hl : l.stackTraces = false) : ∀ q ∈ cm_Mo_needed l B, zm_ok l B gM m_Mo_needed q.1 q.2 := by
  unfold cm_Mo_needed
  refine zm_ac (om_pk nt_aload (ok_aload_n (l := l) (B := B) (y := m_Mo_needed) (pc := 0) (k := 0) rfl (zd_dr dc_Mo_needed 0 rfl))) ?_
  refine zm_ac (ok_mgetf rfl (ok_getf (l := l) (B := B) (y := m_Mo_needed) (pc := 1) hG (C := zR8) (T := zT8) (N := 21) (ci := 8) (k := 8) rfl zl8 (by decide) (List.mem_of_getElem? (i := 890) (by decide +kernel)) (zd_dr dc_Mo_needed 1 rfl))) ?_
  refine zm_ac (om_pk nt_istore (ok_istore_n (l := l) (B := B) (y := m_Mo_needed) (pc := 4) (k := 1) rfl (zd_dr dc_Mo_needed 2 rfl) (by decide))) ?_
  refine zm_ac (om_pk nt_iload (ok_iload_n (l := l) (B := B) (y := m_Mo_needed) (pc := 5) (k := 1) rfl (zd_dr dc_Mo_needed 3 rfl))) ?_
  refine zm_ac (om_pk nt_ci (ok_iconst (l := l) (B := B) (y := m_Mo_needed) (pc := 6) (n := (1)) (zd_dr dc_Mo_needed 4 rfl) rfl)) ?_
  refine zm_ac (om_pk nt_icmp_le (ok_icmp_le (l := l) (B := B) (y := m_Mo_needed) (pc := 7) (zd_dr dc_Mo_needed 5 rfl) (by decide))) ?_
  refine zm_ac (om_pk nt_aload (ok_aload_n (l := l) (B := B) (y := m_Mo_needed) (pc := 10) (k := 0) rfl (zd_dr dc_Mo_needed 6 rfl))) ?_
  refine zm_ac (ok_mgetf rfl (ok_getf (l := l) (B := B) (y := m_Mo_needed) (pc := 11) hG (C := zR8) (T := zT8) (N := 21) (ci := 8) (k := 7) rfl zl8 (by decide) (List.mem_of_getElem? (i := 889) (by decide +kernel)) (zd_dr dc_Mo_needed 7 rfl))) ?_
  refine zm_ac (om_pk nt_iload (ok_iload_n (l := l) (B := B) (y := m_Mo_needed) (pc := 14) (k := 1) rfl (zd_dr dc_Mo_needed 8 rfl))) ?_
  refine zm_ac (om_pk nt_ci (ok_iconst (l := l) (B := B) (y := m_Mo_needed) (pc := 15) (n := (1)) (zd_dr dc_Mo_needed 9 rfl) rfl)) ?_
  refine zm_ac (om_pk nt_isub (ok_isub (l := l) (B := B) (y := m_Mo_needed) (pc := 16) (zd_dr dc_Mo_needed 10 rfl))) ?_
  refine zm_ac (ok_miaload (ok_iaload (l := l) (B := B) (y := m_Mo_needed) (pc := 17) hG (zd_dr dc_Mo_needed 11 rfl))) ?_
  refine zm_ac (om_pk nt_if_ne (ok_if_ne (l := l) (B := B) (y := m_Mo_needed) (pc := 18) (zd_dr dc_Mo_needed 12 rfl) (by decide))) ?_
  refine zm_ac (om_pk nt_iinc (ok_iinc (l := l) (B := B) (y := m_Mo_needed) (pc := 21) (zd_dr dc_Mo_needed 13 rfl) (by decide) rfl)) ?_
  refine zm_ac (om_pk nt_goto (ok_goto (l := l) (B := B) (y := m_Mo_needed) (pc := 24) (zd_dr dc_Mo_needed 14 rfl) (by decide))) ?_
  refine zm_ac (om_pk nt_iload (ok_iload_n (l := l) (B := B) (y := m_Mo_needed) (pc := 27) (k := 1) rfl (zd_dr dc_Mo_needed 15 rfl))) ?_
  refine zm_ac (ok_miret (ok_iret (l := l) (B := B) (y := m_Mo_needed) (pc := 28) rfl (zd_dr dc_Mo_needed 16 rfl))) ?_
  exact zm_an
def dl_Mo_toPrecision : List (Nat × Instr × Nat) := [(0, .aload_n 0, 1), (1, .invokevirtual 59, 3), (4, .aload_n 0, 1), (5, .getfield 26, 3), (8, .iconst (0), 1), (9, .iaload, 1), (10, .ifCond .ne (22), 3), (13, .aload_n 0, 1), (14, .getfield 52, 3), (17, .ifCond .ne (15), 3), (20, .aload_n 0, 1), (21, .lload_n 2, 1), (22, .putfield 48, 3), (25, .aload_n 0, 1), (26, .iload 5, 2), (28, .invokevirtual 89, 3), (31, .return_, 1), (32, .aload_n 0, 1), (33, .invokevirtual 93, 3), (36, .istore 6, 2), (38, .aload_n 0, 1), (39, .getfield 52, 3), (42, .ifCond .ne (87), 3), (45, .iload 6, 2), (47, .iload_n 1, 1), (48, .if_icmp .gt (81), 3), (51, .aload_n 0, 1), (52, .aload_n 0, 1), (53, .getfield 48, 3), (56, .aload_n 0, 1), (57, .getfield 45, 3), (60, .iload 6, 2), (62, .isub, 1), (63, .i2l, 1), (64, .lsub, 1), (65, .putfield 48, 3), (68, .aload_n 0, 1), (69, .iload 6, 2), (71, .putfield 45, 3), (74, .lload_n 2, 1), (75, .aload_n 0, 1), (76, .getfield 48, 3), (79, .lsub, 1), (80, .lstore 7, 2), (82, .lload 7, 2), (84, .lconst 0, 1), (85, .lcmp, 1), (86, .ifCond .ge (7), 3), (89, .lconst 0, 1), (90, .goto (24), 3), (93, .lload 7, 2), (95, .iload_n 1, 1), (96, .iload 6, 2), (98, .isub, 1), (99, .i2l, 1), (100, .lcmp, 1), (101, .ifCond .le (11), 3), (104, .iload_n 1, 1), (105, .iload 6, 2), (107, .isub, 1), (108, .i2l, 1), (109, .goto (5), 3), (112, .lload 7, 2), (114, .lstore 7, 2), (116, .aload_n 0, 1), (117, .lload 7, 2), (119, .invokevirtual 79, 3), (122, .aload_n 0, 1), (123, .iload 5, 2), (125, .invokevirtual 89, 3), (128, .return_, 1), (129, .aload_n 0, 1), (130, .iload_n 1, 1), (131, .iload 4, 2), (133, .invokevirtual 85, 3), (136, .ifCond .eq (37), 3), (139, .aload_n 0, 1), (140, .getfield 45, 3), (143, .iload_n 1, 1), (144, .if_icmp .le (23), 3), (147, .aload_n 0, 1), (148, .dup, 1), (149, .getfield 45, 3), (152, .iconst (1), 1), (153, .isub, 1), (154, .putfield 45, 3), (157, .aload_n 0, 1), (158, .dup, 1), (159, .getfield 48, 3), (162, .lconst 1, 1), (163, .lsub, 1), (164, .putfield 48, 3), (167, .aload_n 0, 1), (168, .iload 5, 2), (170, .invokevirtual 89, 3), (173, .return_, 1)]
theorem dc_Mo_toPrecision : ∀ q ∈ dl_Mo_toPrecision, decode (zd_yb m_Mo_toPrecision) q.1 = .ok q.2 := by decide +kernel
def cm_Mo_toPrecision (l : Launch) (B : zd_B) : List (Nat × zm_S) := [(0, om_p (oc_aload 0 1)), (1, om_callv l B gM m_Mo_trim 0 4), (4, om_p (oc_aload 0 5)), (5, om_getf gM 7 8), (8, om_p (oc_ci (0) 9)), (9, om_ald gM 0 10), (10, om_p (oc_if_ne 32 13)), (13, om_p (oc_aload 0 14)), (14, om_getf gM 10 17), (17, om_p (oc_if_ne 32 20)), (20, om_p (oc_aload 0 21)), (21, om_p (oc_lload 2 22)), (22, om_putl gM 9 25), (25, om_p (oc_aload 0 26)), (26, om_p (oc_iload 5 28)), (28, om_callv l B gM m_Mo_store 1 31), (31, om_vret), (32, om_p (oc_aload 0 33)), (33, om_callv l B gM m_Mo_needed 0 36), (36, om_p (oc_istore 6 38)), (38, om_p (oc_aload 0 39)), (39, om_getf gM 10 42), (42, om_p (oc_if_ne 129 45)), (45, om_p (oc_iload 6 47)), (47, om_p (oc_iload 1 48)), (48, om_p (oc_icmp_gt 129 51)), (51, om_p (oc_aload 0 52)), (52, om_p (oc_aload 0 53)), (53, om_getf gM 9 56), (56, om_p (oc_aload 0 57)), (57, om_getf gM 8 60), (60, om_p (oc_iload 6 62)), (62, om_p (oc_isub 63)), (63, om_p (oc_i2l 64)), (64, om_p (oc_lsub 65)), (65, om_putl gM 9 68), (68, om_p (oc_aload 0 69)), (69, om_p (oc_iload 6 71)), (71, om_puti gM 8 74), (74, om_p (oc_lload 2 75)), (75, om_p (oc_aload 0 76)), (76, om_getf gM 9 79), (79, om_p (oc_lsub 80)), (80, om_p (oc_lstore 7 82)), (82, om_p (oc_lload 7 84)), (84, om_p (oc_cl 0 85)), (85, om_p (oc_lcmp 86)), (86, om_p (oc_if_ge 93 89)), (89, om_p (oc_cl 0 90)), (90, om_p (oc_goto 114)), (93, om_p (oc_lload 7 95)), (95, om_p (oc_iload 1 96)), (96, om_p (oc_iload 6 98)), (98, om_p (oc_isub 99)), (99, om_p (oc_i2l 100)), (100, om_p (oc_lcmp 101)), (101, om_p (oc_if_le 112 104)), (104, om_p (oc_iload 1 105)), (105, om_p (oc_iload 6 107)), (107, om_p (oc_isub 108)), (108, om_p (oc_i2l 109)), (109, om_p (oc_goto 114)), (112, om_p (oc_lload 7 114)), (114, om_p (oc_lstore 7 116)), (116, om_p (oc_aload 0 117)), (117, om_p (oc_lload 7 119)), (119, om_callv l B gM m_Mo_lengthen 1 122), (122, om_p (oc_aload 0 123)), (123, om_p (oc_iload 5 125)), (125, om_callv l B gM m_Mo_store 1 128), (128, om_vret), (129, om_p (oc_aload 0 130)), (130, om_p (oc_iload 1 131)), (131, om_p (oc_iload 4 133)), (133, om_callv l B gM m_Mo_cut 2 136), (136, om_p (oc_if_eq 173 139)), (139, om_p (oc_aload 0 140)), (140, om_getf gM 8 143), (143, om_p (oc_iload 1 144)), (144, om_p (oc_icmp_le 167 147)), (147, om_p (oc_aload 0 148)), (148, om_p (oc_dup 149)), (149, om_getf gM 8 152), (152, om_p (oc_ci (1) 153)), (153, om_p (oc_isub 154)), (154, om_puti gM 8 157), (157, om_p (oc_aload 0 158)), (158, om_p (oc_dup 159)), (159, om_getf gM 9 162), (162, om_p (oc_cl 1 163)), (163, om_p (oc_lsub 164)), (164, om_putl gM 9 167), (167, om_p (oc_aload 0 168)), (168, om_p (oc_iload 5 170)), (170, om_callv l B gM m_Mo_store 1 173), (173, om_vret)]
set_option maxRecDepth 20000 in
theorem okm_Mo_toPrecision {l : Launch} {B : zd_B} (hG : zd_G B) (hl : l.stackTraces = false) : ∀ q ∈ cm_Mo_toPrecision l B, zm_ok l B gM m_Mo_toPrecision q.1 q.2 := by
  unfold cm_Mo_toPrecision
  refine zm_ac (om_pk nt_aload (ok_aload_n (l := l) (B := B) (y := m_Mo_toPrecision) (pc := 0) (k := 0) rfl (zd_dr dc_Mo_toPrecision 0 rfl))) ?_
  refine zm_ac (ok_mcallv rfl (ok_callv (l := l) (B := B) (y := m_Mo_toPrecision) (pc := 1) hG (ci := 8) rfl cf_Mo_toPrecision_Mo_trim rfl (List.mem_of_getElem? (i := 984) (by decide +kernel)) (List.mem_of_getElem? (i := 986) (by decide +kernel)) (List.mem_of_getElem? (i := 30) (by decide +kernel)) (zd_dr dc_Mo_toPrecision 1 rfl))) ?_
  refine zm_ac (om_pk nt_aload (ok_aload_n (l := l) (B := B) (y := m_Mo_toPrecision) (pc := 4) (k := 0) rfl (zd_dr dc_Mo_toPrecision 2 rfl))) ?_
  refine zm_ac (ok_mgetf rfl (ok_getf (l := l) (B := B) (y := m_Mo_toPrecision) (pc := 5) hG (C := zR8) (T := zT8) (N := 21) (ci := 8) (k := 7) rfl zl8 (by decide) (List.mem_of_getElem? (i := 889) (by decide +kernel)) (zd_dr dc_Mo_toPrecision 3 rfl))) ?_
  refine zm_ac (om_pk nt_ci (ok_iconst (l := l) (B := B) (y := m_Mo_toPrecision) (pc := 8) (n := (0)) (zd_dr dc_Mo_toPrecision 4 rfl) rfl)) ?_
  refine zm_ac (ok_miaload (ok_iaload (l := l) (B := B) (y := m_Mo_toPrecision) (pc := 9) hG (zd_dr dc_Mo_toPrecision 5 rfl))) ?_
  refine zm_ac (om_pk nt_if_ne (ok_if_ne (l := l) (B := B) (y := m_Mo_toPrecision) (pc := 10) (zd_dr dc_Mo_toPrecision 6 rfl) (by decide))) ?_
  refine zm_ac (om_pk nt_aload (ok_aload_n (l := l) (B := B) (y := m_Mo_toPrecision) (pc := 13) (k := 0) rfl (zd_dr dc_Mo_toPrecision 7 rfl))) ?_
  refine zm_ac (ok_mgetf rfl (ok_getf (l := l) (B := B) (y := m_Mo_toPrecision) (pc := 14) hG (C := zR8) (T := zT8) (N := 21) (ci := 8) (k := 10) rfl zl8 (by decide) (List.mem_of_getElem? (i := 892) (by decide +kernel)) (zd_dr dc_Mo_toPrecision 8 rfl))) ?_
  refine zm_ac (om_pk nt_if_ne (ok_if_ne (l := l) (B := B) (y := m_Mo_toPrecision) (pc := 17) (zd_dr dc_Mo_toPrecision 9 rfl) (by decide))) ?_
  refine zm_ac (om_pk nt_aload (ok_aload_n (l := l) (B := B) (y := m_Mo_toPrecision) (pc := 20) (k := 0) rfl (zd_dr dc_Mo_toPrecision 10 rfl))) ?_
  refine zm_ac (om_pk nt_lload (ok_lload_n (l := l) (B := B) (y := m_Mo_toPrecision) (pc := 21) (k := 2) rfl (zd_dr dc_Mo_toPrecision 11 rfl))) ?_
  refine zm_ac (ok_mputl rfl (ok_putf (l := l) (B := B) (y := m_Mo_toPrecision) (pc := 22) hG (C := zR8) (T := zT8) (N := 21) (ci := 8) (k := 9) rfl zl8 zt8 (by decide) (List.mem_of_getElem? (i := 891) (by decide +kernel)) rfl (zd_dr dc_Mo_toPrecision 12 rfl))) ?_
  refine zm_ac (om_pk nt_aload (ok_aload_n (l := l) (B := B) (y := m_Mo_toPrecision) (pc := 25) (k := 0) rfl (zd_dr dc_Mo_toPrecision 13 rfl))) ?_
  refine zm_ac (om_pk nt_iload (ok_iload (l := l) (B := B) (y := m_Mo_toPrecision) (pc := 26) (zd_dr dc_Mo_toPrecision 14 rfl))) ?_
  refine zm_ac (ok_mcallv rfl (ok_callv (l := l) (B := B) (y := m_Mo_toPrecision) (pc := 28) hG (ci := 8) rfl cf_Mo_toPrecision_Mo_store rfl (List.mem_of_getElem? (i := 980) (by decide +kernel)) (List.mem_of_getElem? (i := 982) (by decide +kernel)) (List.mem_of_getElem? (i := 29) (by decide +kernel)) (zd_dr dc_Mo_toPrecision 15 rfl))) ?_
  refine zm_ac (ok_mvret (ok_vret (l := l) (B := B) (y := m_Mo_toPrecision) (pc := 31) rfl (zd_dr dc_Mo_toPrecision 16 rfl))) ?_
  refine zm_ac (om_pk nt_aload (ok_aload_n (l := l) (B := B) (y := m_Mo_toPrecision) (pc := 32) (k := 0) rfl (zd_dr dc_Mo_toPrecision 17 rfl))) ?_
  refine zm_ac (ok_mcallv rfl (ok_callv (l := l) (B := B) (y := m_Mo_toPrecision) (pc := 33) hG (ci := 8) rfl cf_Mo_toPrecision_Mo_needed rfl (List.mem_of_getElem? (i := 1088) (by decide +kernel)) (List.mem_of_getElem? (i := 1090) (by decide +kernel)) (List.mem_of_getElem? (i := 47) (by decide +kernel)) (zd_dr dc_Mo_toPrecision 18 rfl))) ?_
  refine zm_ac (om_pk nt_istore (ok_istore (l := l) (B := B) (y := m_Mo_toPrecision) (pc := 36) (zd_dr dc_Mo_toPrecision 19 rfl) (by decide))) ?_
  refine zm_ac (om_pk nt_aload (ok_aload_n (l := l) (B := B) (y := m_Mo_toPrecision) (pc := 38) (k := 0) rfl (zd_dr dc_Mo_toPrecision 20 rfl))) ?_
  refine zm_ac (ok_mgetf rfl (ok_getf (l := l) (B := B) (y := m_Mo_toPrecision) (pc := 39) hG (C := zR8) (T := zT8) (N := 21) (ci := 8) (k := 10) rfl zl8 (by decide) (List.mem_of_getElem? (i := 892) (by decide +kernel)) (zd_dr dc_Mo_toPrecision 21 rfl))) ?_
  refine zm_ac (om_pk nt_if_ne (ok_if_ne (l := l) (B := B) (y := m_Mo_toPrecision) (pc := 42) (zd_dr dc_Mo_toPrecision 22 rfl) (by decide))) ?_
  refine zm_ac (om_pk nt_iload (ok_iload (l := l) (B := B) (y := m_Mo_toPrecision) (pc := 45) (zd_dr dc_Mo_toPrecision 23 rfl))) ?_
  refine zm_ac (om_pk nt_iload (ok_iload_n (l := l) (B := B) (y := m_Mo_toPrecision) (pc := 47) (k := 1) rfl (zd_dr dc_Mo_toPrecision 24 rfl))) ?_
  refine zm_ac (om_pk nt_icmp_gt (ok_icmp_gt (l := l) (B := B) (y := m_Mo_toPrecision) (pc := 48) (zd_dr dc_Mo_toPrecision 25 rfl) (by decide))) ?_
  refine zm_ac (om_pk nt_aload (ok_aload_n (l := l) (B := B) (y := m_Mo_toPrecision) (pc := 51) (k := 0) rfl (zd_dr dc_Mo_toPrecision 26 rfl))) ?_
  refine zm_ac (om_pk nt_aload (ok_aload_n (l := l) (B := B) (y := m_Mo_toPrecision) (pc := 52) (k := 0) rfl (zd_dr dc_Mo_toPrecision 27 rfl))) ?_
  refine zm_ac (ok_mgetf rfl (ok_getf (l := l) (B := B) (y := m_Mo_toPrecision) (pc := 53) hG (C := zR8) (T := zT8) (N := 21) (ci := 8) (k := 9) rfl zl8 (by decide) (List.mem_of_getElem? (i := 891) (by decide +kernel)) (zd_dr dc_Mo_toPrecision 28 rfl))) ?_
  refine zm_ac (om_pk nt_aload (ok_aload_n (l := l) (B := B) (y := m_Mo_toPrecision) (pc := 56) (k := 0) rfl (zd_dr dc_Mo_toPrecision 29 rfl))) ?_
  refine zm_ac (ok_mgetf rfl (ok_getf (l := l) (B := B) (y := m_Mo_toPrecision) (pc := 57) hG (C := zR8) (T := zT8) (N := 21) (ci := 8) (k := 8) rfl zl8 (by decide) (List.mem_of_getElem? (i := 890) (by decide +kernel)) (zd_dr dc_Mo_toPrecision 30 rfl))) ?_
  refine zm_ac (om_pk nt_iload (ok_iload (l := l) (B := B) (y := m_Mo_toPrecision) (pc := 60) (zd_dr dc_Mo_toPrecision 31 rfl))) ?_
  refine zm_ac (om_pk nt_isub (ok_isub (l := l) (B := B) (y := m_Mo_toPrecision) (pc := 62) (zd_dr dc_Mo_toPrecision 32 rfl))) ?_
  refine zm_ac (om_pk nt_i2l (ok_i2l (l := l) (B := B) (y := m_Mo_toPrecision) (pc := 63) (zd_dr dc_Mo_toPrecision 33 rfl))) ?_
  refine zm_ac (om_pk nt_lsub (ok_lsub (l := l) (B := B) (y := m_Mo_toPrecision) (pc := 64) (zd_dr dc_Mo_toPrecision 34 rfl))) ?_
  refine zm_ac (ok_mputl rfl (ok_putf (l := l) (B := B) (y := m_Mo_toPrecision) (pc := 65) hG (C := zR8) (T := zT8) (N := 21) (ci := 8) (k := 9) rfl zl8 zt8 (by decide) (List.mem_of_getElem? (i := 891) (by decide +kernel)) rfl (zd_dr dc_Mo_toPrecision 35 rfl))) ?_
  refine zm_ac (om_pk nt_aload (ok_aload_n (l := l) (B := B) (y := m_Mo_toPrecision) (pc := 68) (k := 0) rfl (zd_dr dc_Mo_toPrecision 36 rfl))) ?_
  refine zm_ac (om_pk nt_iload (ok_iload (l := l) (B := B) (y := m_Mo_toPrecision) (pc := 69) (zd_dr dc_Mo_toPrecision 37 rfl))) ?_
  refine zm_ac (ok_mputi rfl (ok_putf (l := l) (B := B) (y := m_Mo_toPrecision) (pc := 71) hG (C := zR8) (T := zT8) (N := 21) (ci := 8) (k := 8) rfl zl8 zt8 (by decide) (List.mem_of_getElem? (i := 890) (by decide +kernel)) rfl (zd_dr dc_Mo_toPrecision 38 rfl))) ?_
  refine zm_ac (om_pk nt_lload (ok_lload_n (l := l) (B := B) (y := m_Mo_toPrecision) (pc := 74) (k := 2) rfl (zd_dr dc_Mo_toPrecision 39 rfl))) ?_
  refine zm_ac (om_pk nt_aload (ok_aload_n (l := l) (B := B) (y := m_Mo_toPrecision) (pc := 75) (k := 0) rfl (zd_dr dc_Mo_toPrecision 40 rfl))) ?_
  refine zm_ac (ok_mgetf rfl (ok_getf (l := l) (B := B) (y := m_Mo_toPrecision) (pc := 76) hG (C := zR8) (T := zT8) (N := 21) (ci := 8) (k := 9) rfl zl8 (by decide) (List.mem_of_getElem? (i := 891) (by decide +kernel)) (zd_dr dc_Mo_toPrecision 41 rfl))) ?_
  refine zm_ac (om_pk nt_lsub (ok_lsub (l := l) (B := B) (y := m_Mo_toPrecision) (pc := 79) (zd_dr dc_Mo_toPrecision 42 rfl))) ?_
  refine zm_ac (om_pk nt_lstore (ok_lstore (l := l) (B := B) (y := m_Mo_toPrecision) (pc := 80) (zd_dr dc_Mo_toPrecision 43 rfl) (by decide))) ?_
  refine zm_ac (om_pk nt_lload (ok_lload (l := l) (B := B) (y := m_Mo_toPrecision) (pc := 82) (zd_dr dc_Mo_toPrecision 44 rfl))) ?_
  refine zm_ac (om_pk nt_cl (ok_lconst (l := l) (B := B) (y := m_Mo_toPrecision) (pc := 84) (n := 0) (zd_dr dc_Mo_toPrecision 45 rfl) rfl)) ?_
  refine zm_ac (om_pk nt_lcmp (ok_lcmp (l := l) (B := B) (y := m_Mo_toPrecision) (pc := 85) (zd_dr dc_Mo_toPrecision 46 rfl))) ?_
  refine zm_ac (om_pk nt_if_ge (ok_if_ge (l := l) (B := B) (y := m_Mo_toPrecision) (pc := 86) (zd_dr dc_Mo_toPrecision 47 rfl) (by decide))) ?_
  refine zm_ac (om_pk nt_cl (ok_lconst (l := l) (B := B) (y := m_Mo_toPrecision) (pc := 89) (n := 0) (zd_dr dc_Mo_toPrecision 48 rfl) rfl)) ?_
  refine zm_ac (om_pk nt_goto (ok_goto (l := l) (B := B) (y := m_Mo_toPrecision) (pc := 90) (zd_dr dc_Mo_toPrecision 49 rfl) (by decide))) ?_
  refine zm_ac (om_pk nt_lload (ok_lload (l := l) (B := B) (y := m_Mo_toPrecision) (pc := 93) (zd_dr dc_Mo_toPrecision 50 rfl))) ?_
  refine zm_ac (om_pk nt_iload (ok_iload_n (l := l) (B := B) (y := m_Mo_toPrecision) (pc := 95) (k := 1) rfl (zd_dr dc_Mo_toPrecision 51 rfl))) ?_
  refine zm_ac (om_pk nt_iload (ok_iload (l := l) (B := B) (y := m_Mo_toPrecision) (pc := 96) (zd_dr dc_Mo_toPrecision 52 rfl))) ?_
  refine zm_ac (om_pk nt_isub (ok_isub (l := l) (B := B) (y := m_Mo_toPrecision) (pc := 98) (zd_dr dc_Mo_toPrecision 53 rfl))) ?_
  refine zm_ac (om_pk nt_i2l (ok_i2l (l := l) (B := B) (y := m_Mo_toPrecision) (pc := 99) (zd_dr dc_Mo_toPrecision 54 rfl))) ?_
  refine zm_ac (om_pk nt_lcmp (ok_lcmp (l := l) (B := B) (y := m_Mo_toPrecision) (pc := 100) (zd_dr dc_Mo_toPrecision 55 rfl))) ?_
  refine zm_ac (om_pk nt_if_le (ok_if_le (l := l) (B := B) (y := m_Mo_toPrecision) (pc := 101) (zd_dr dc_Mo_toPrecision 56 rfl) (by decide))) ?_
  refine zm_ac (om_pk nt_iload (ok_iload_n (l := l) (B := B) (y := m_Mo_toPrecision) (pc := 104) (k := 1) rfl (zd_dr dc_Mo_toPrecision 57 rfl))) ?_
  refine zm_ac (om_pk nt_iload (ok_iload (l := l) (B := B) (y := m_Mo_toPrecision) (pc := 105) (zd_dr dc_Mo_toPrecision 58 rfl))) ?_
  refine zm_ac (om_pk nt_isub (ok_isub (l := l) (B := B) (y := m_Mo_toPrecision) (pc := 107) (zd_dr dc_Mo_toPrecision 59 rfl))) ?_
  refine zm_ac (om_pk nt_i2l (ok_i2l (l := l) (B := B) (y := m_Mo_toPrecision) (pc := 108) (zd_dr dc_Mo_toPrecision 60 rfl))) ?_
  refine zm_ac (om_pk nt_goto (ok_goto (l := l) (B := B) (y := m_Mo_toPrecision) (pc := 109) (zd_dr dc_Mo_toPrecision 61 rfl) (by decide))) ?_
  refine zm_ac (om_pk nt_lload (ok_lload (l := l) (B := B) (y := m_Mo_toPrecision) (pc := 112) (zd_dr dc_Mo_toPrecision 62 rfl))) ?_
  refine zm_ac (om_pk nt_lstore (ok_lstore (l := l) (B := B) (y := m_Mo_toPrecision) (pc := 114) (zd_dr dc_Mo_toPrecision 63 rfl) (by decide))) ?_
  refine zm_ac (om_pk nt_aload (ok_aload_n (l := l) (B := B) (y := m_Mo_toPrecision) (pc := 116) (k := 0) rfl (zd_dr dc_Mo_toPrecision 64 rfl))) ?_
  refine zm_ac (om_pk nt_lload (ok_lload (l := l) (B := B) (y := m_Mo_toPrecision) (pc := 117) (zd_dr dc_Mo_toPrecision 65 rfl))) ?_
  refine zm_ac (ok_mcallv rfl (ok_callv (l := l) (B := B) (y := m_Mo_toPrecision) (pc := 119) hG (ci := 8) rfl cf_Mo_toPrecision_Mo_lengthen rfl (List.mem_of_getElem? (i := 1092) (by decide +kernel)) (List.mem_of_getElem? (i := 1094) (by decide +kernel)) (List.mem_of_getElem? (i := 48) (by decide +kernel)) (zd_dr dc_Mo_toPrecision 66 rfl))) ?_
  refine zm_ac (om_pk nt_aload (ok_aload_n (l := l) (B := B) (y := m_Mo_toPrecision) (pc := 122) (k := 0) rfl (zd_dr dc_Mo_toPrecision 67 rfl))) ?_
  refine zm_ac (om_pk nt_iload (ok_iload (l := l) (B := B) (y := m_Mo_toPrecision) (pc := 123) (zd_dr dc_Mo_toPrecision 68 rfl))) ?_
  refine zm_ac (ok_mcallv rfl (ok_callv (l := l) (B := B) (y := m_Mo_toPrecision) (pc := 125) hG (ci := 8) rfl cf_Mo_toPrecision_Mo_store rfl (List.mem_of_getElem? (i := 980) (by decide +kernel)) (List.mem_of_getElem? (i := 982) (by decide +kernel)) (List.mem_of_getElem? (i := 29) (by decide +kernel)) (zd_dr dc_Mo_toPrecision 69 rfl))) ?_
  refine zm_ac (ok_mvret (ok_vret (l := l) (B := B) (y := m_Mo_toPrecision) (pc := 128) rfl (zd_dr dc_Mo_toPrecision 70 rfl))) ?_
  refine zm_ac (om_pk nt_aload (ok_aload_n (l := l) (B := B) (y := m_Mo_toPrecision) (pc := 129) (k := 0) rfl (zd_dr dc_Mo_toPrecision 71 rfl))) ?_
  refine zm_ac (om_pk nt_iload (ok_iload_n (l := l) (B := B) (y := m_Mo_toPrecision) (pc := 130) (k := 1) rfl (zd_dr dc_Mo_toPrecision 72 rfl))) ?_
  refine zm_ac (om_pk nt_iload (ok_iload (l := l) (B := B) (y := m_Mo_toPrecision) (pc := 131) (zd_dr dc_Mo_toPrecision 73 rfl))) ?_
  refine zm_ac (ok_mcallv rfl (ok_callv (l := l) (B := B) (y := m_Mo_toPrecision) (pc := 133) hG (ci := 8) rfl cf_Mo_toPrecision_Mo_cut rfl (List.mem_of_getElem? (i := 1068) (by decide +kernel)) (List.mem_of_getElem? (i := 1070) (by decide +kernel)) (List.mem_of_getElem? (i := 43) (by decide +kernel)) (zd_dr dc_Mo_toPrecision 74 rfl))) ?_
  refine zm_ac (om_pk nt_if_eq (ok_if_eq (l := l) (B := B) (y := m_Mo_toPrecision) (pc := 136) (zd_dr dc_Mo_toPrecision 75 rfl) (by decide))) ?_
  refine zm_ac (om_pk nt_aload (ok_aload_n (l := l) (B := B) (y := m_Mo_toPrecision) (pc := 139) (k := 0) rfl (zd_dr dc_Mo_toPrecision 76 rfl))) ?_
  refine zm_ac (ok_mgetf rfl (ok_getf (l := l) (B := B) (y := m_Mo_toPrecision) (pc := 140) hG (C := zR8) (T := zT8) (N := 21) (ci := 8) (k := 8) rfl zl8 (by decide) (List.mem_of_getElem? (i := 890) (by decide +kernel)) (zd_dr dc_Mo_toPrecision 77 rfl))) ?_
  refine zm_ac (om_pk nt_iload (ok_iload_n (l := l) (B := B) (y := m_Mo_toPrecision) (pc := 143) (k := 1) rfl (zd_dr dc_Mo_toPrecision 78 rfl))) ?_
  refine zm_ac (om_pk nt_icmp_le (ok_icmp_le (l := l) (B := B) (y := m_Mo_toPrecision) (pc := 144) (zd_dr dc_Mo_toPrecision 79 rfl) (by decide))) ?_
  refine zm_ac (om_pk nt_aload (ok_aload_n (l := l) (B := B) (y := m_Mo_toPrecision) (pc := 147) (k := 0) rfl (zd_dr dc_Mo_toPrecision 80 rfl))) ?_
  refine zm_ac (om_pk nt_dup (ok_dup (l := l) (B := B) (y := m_Mo_toPrecision) (pc := 148) (zd_dr dc_Mo_toPrecision 81 rfl))) ?_
  refine zm_ac (ok_mgetf rfl (ok_getf (l := l) (B := B) (y := m_Mo_toPrecision) (pc := 149) hG (C := zR8) (T := zT8) (N := 21) (ci := 8) (k := 8) rfl zl8 (by decide) (List.mem_of_getElem? (i := 890) (by decide +kernel)) (zd_dr dc_Mo_toPrecision 82 rfl))) ?_
  refine zm_ac (om_pk nt_ci (ok_iconst (l := l) (B := B) (y := m_Mo_toPrecision) (pc := 152) (n := (1)) (zd_dr dc_Mo_toPrecision 83 rfl) rfl)) ?_
  refine zm_ac (om_pk nt_isub (ok_isub (l := l) (B := B) (y := m_Mo_toPrecision) (pc := 153) (zd_dr dc_Mo_toPrecision 84 rfl))) ?_
  refine zm_ac (ok_mputi rfl (ok_putf (l := l) (B := B) (y := m_Mo_toPrecision) (pc := 154) hG (C := zR8) (T := zT8) (N := 21) (ci := 8) (k := 8) rfl zl8 zt8 (by decide) (List.mem_of_getElem? (i := 890) (by decide +kernel)) rfl (zd_dr dc_Mo_toPrecision 85 rfl))) ?_
  refine zm_ac (om_pk nt_aload (ok_aload_n (l := l) (B := B) (y := m_Mo_toPrecision) (pc := 157) (k := 0) rfl (zd_dr dc_Mo_toPrecision 86 rfl))) ?_
  refine zm_ac (om_pk nt_dup (ok_dup (l := l) (B := B) (y := m_Mo_toPrecision) (pc := 158) (zd_dr dc_Mo_toPrecision 87 rfl))) ?_
  refine zm_ac (ok_mgetf rfl (ok_getf (l := l) (B := B) (y := m_Mo_toPrecision) (pc := 159) hG (C := zR8) (T := zT8) (N := 21) (ci := 8) (k := 9) rfl zl8 (by decide) (List.mem_of_getElem? (i := 891) (by decide +kernel)) (zd_dr dc_Mo_toPrecision 88 rfl))) ?_
  refine zm_ac (om_pk nt_cl (ok_lconst (l := l) (B := B) (y := m_Mo_toPrecision) (pc := 162) (n := 1) (zd_dr dc_Mo_toPrecision 89 rfl) rfl)) ?_
  refine zm_ac (om_pk nt_lsub (ok_lsub (l := l) (B := B) (y := m_Mo_toPrecision) (pc := 163) (zd_dr dc_Mo_toPrecision 90 rfl))) ?_
  refine zm_ac (ok_mputl rfl (ok_putf (l := l) (B := B) (y := m_Mo_toPrecision) (pc := 164) hG (C := zR8) (T := zT8) (N := 21) (ci := 8) (k := 9) rfl zl8 zt8 (by decide) (List.mem_of_getElem? (i := 891) (by decide +kernel)) rfl (zd_dr dc_Mo_toPrecision 91 rfl))) ?_
  refine zm_ac (om_pk nt_aload (ok_aload_n (l := l) (B := B) (y := m_Mo_toPrecision) (pc := 167) (k := 0) rfl (zd_dr dc_Mo_toPrecision 92 rfl))) ?_
  refine zm_ac (om_pk nt_iload (ok_iload (l := l) (B := B) (y := m_Mo_toPrecision) (pc := 168) (zd_dr dc_Mo_toPrecision 93 rfl))) ?_
  refine zm_ac (ok_mcallv rfl (ok_callv (l := l) (B := B) (y := m_Mo_toPrecision) (pc := 170) hG (ci := 8) rfl cf_Mo_toPrecision_Mo_store rfl (List.mem_of_getElem? (i := 980) (by decide +kernel)) (List.mem_of_getElem? (i := 982) (by decide +kernel)) (List.mem_of_getElem? (i := 29) (by decide +kernel)) (zd_dr dc_Mo_toPrecision 94 rfl))) ?_
  refine zm_ac (ok_mvret (ok_vret (l := l) (B := B) (y := m_Mo_toPrecision) (pc := 173) rfl (zd_dr dc_Mo_toPrecision 95 rfl))) ?_
  exact zm_an

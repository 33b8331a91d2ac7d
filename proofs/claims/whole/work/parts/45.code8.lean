/-! written by gencode.py: code of the model -/
theorem cf_Mo_exponent_Mo_print : zd_cf m_Mo_exponent m_Mo_print 1 := ⟨(List.mem_of_getElem? (i := 1147) (by decide +kernel)), by decide +kernel, by decide, by decide, ⟨by decide, by decide⟩, by decide +kernel⟩
theorem cf_Mo_figures_Mo_print : zd_cf m_Mo_figures m_Mo_print 1 := ⟨(List.mem_of_getElem? (i := 1147) (by decide +kernel)), by decide +kernel, by decide, by decide, ⟨by decide, by decide⟩, by decide +kernel⟩
theorem cf_Mo_negate_Mo_load : zd_cf m_Mo_negate m_Mo_load 1 := ⟨(List.mem_of_getElem? (i := 1022) (by decide +kernel)), by decide +kernel, by decide, by decide, ⟨by decide, by decide⟩, by decide +kernel⟩
theorem cf_Mo_negate_Mo_no : zd_cf m_Mo_negate m_Mo_no 1 := ⟨(List.mem_of_getElem? (i := 966) (by decide +kernel)), by decide +kernel, by decide, by decide, ⟨by decide, by decide⟩, by decide +kernel⟩
theorem cf_Mo_negate_Mo_store : zd_cf m_Mo_negate m_Mo_store 1 := ⟨(List.mem_of_getElem? (i := 983) (by decide +kernel)), by decide +kernel, by decide, by decide, ⟨by decide, by decide⟩, by decide +kernel⟩
theorem cf_Mo_round_Mo_load : zd_cf m_Mo_round m_Mo_load 1 := ⟨(List.mem_of_getElem? (i := 1022) (by decide +kernel)), by decide +kernel, by decide, by decide, ⟨by decide, by decide⟩, by decide +kernel⟩
theorem cf_Mo_round_Mo_no : zd_cf m_Mo_round m_Mo_no 1 := ⟨(List.mem_of_getElem? (i := 966) (by decide +kernel)), by decide +kernel, by decide, by decide, ⟨by decide, by decide⟩, by decide +kernel⟩
theorem cf_Mo_round_Mo_noMode : zd_cf m_Mo_round m_Mo_noMode 1 := ⟨(List.mem_of_getElem? (i := 1037) (by decide +kernel)), by decide +kernel, by decide, by decide, ⟨by decide, by decide⟩, by decide +kernel⟩
theorem cf_Mo_round_Mo_toPrecision : zd_cf m_Mo_round m_Mo_toPrecision 4 := ⟨(List.mem_of_getElem? (i := 1087) (by decide +kernel)), by decide +kernel, by decide, by decide, ⟨by decide, by decide⟩, by decide +kernel⟩
theorem cf_Mo_shift_Mo_load : zd_cf m_Mo_shift m_Mo_load 1 := ⟨(List.mem_of_getElem? (i := 1022) (by decide +kernel)), by decide +kernel, by decide, by decide, ⟨by decide, by decide⟩, by decide +kernel⟩
theorem cf_Mo_shift_Mo_no : zd_cf m_Mo_shift m_Mo_no 1 := ⟨(List.mem_of_getElem? (i := 966) (by decide +kernel)), by decide +kernel, by decide, by decide, ⟨by decide, by decide⟩, by decide +kernel⟩
theorem cf_Mo_shift_Mo_store : zd_cf m_Mo_shift m_Mo_store 1 := ⟨(List.mem_of_getElem? (i := 983) (by decide +kernel)), by decide +kernel, by decide, by decide, ⟨by decide, by decide⟩, by decide +kernel⟩
theorem cf_Mo_strip_Mo_load : zd_cf m_Mo_strip m_Mo_load 1 := ⟨(List.mem_of_getElem? (i := 1022) (by decide +kernel)), by decide +kernel, by decide, by decide, ⟨by decide, by decide⟩, by decide +kernel⟩
theorem cf_Mo_strip_Mo_needed : zd_cf m_Mo_strip m_Mo_needed 0 := ⟨(List.mem_of_getElem? (i := 1091) (by decide +kernel)), by decide +kernel, by decide, by decide, ⟨by decide, by decide⟩, by decide +kernel⟩
theorem cf_Mo_strip_Mo_no : zd_cf m_Mo_strip m_Mo_no 1 := ⟨(List.mem_of_getElem? (i := 966) (by decide +kernel)), by decide +kernel, by decide, by decide, ⟨by decide, by decide⟩, by decide +kernel⟩
theorem cf_Mo_strip_Mo_store : zd_cf m_Mo_strip m_Mo_store 1 := ⟨(List.mem_of_getElem? (i := 983) (by decide +kernel)), by decide +kernel, by decide, by decide, ⟨by decide, by decide⟩, by decide +kernel⟩
theorem cf_Mo_toScale_Mo_bring : zd_cf m_Mo_toScale m_Mo_bring 3 := ⟨(List.mem_of_getElem? (i := 1103) (by decide +kernel)), by decide +kernel, by decide, by decide, ⟨by decide, by decide⟩, by decide +kernel⟩
theorem cf_Mo_toScale_Mo_load : zd_cf m_Mo_toScale m_Mo_load 1 := ⟨(List.mem_of_getElem? (i := 1022) (by decide +kernel)), by decide +kernel, by decide, by decide, ⟨by decide, by decide⟩, by decide +kernel⟩
theorem cf_Mo_toScale_Mo_no : zd_cf m_Mo_toScale m_Mo_no 1 := ⟨(List.mem_of_getElem? (i := 966) (by decide +kernel)), by decide +kernel, by decide, by decide, ⟨by decide, by decide⟩, by decide +kernel⟩
theorem cf_Mo_toScale_Mo_noMode : zd_cf m_Mo_toScale m_Mo_noMode 1 := ⟨(List.mem_of_getElem? (i := 1037) (by decide +kernel)), by decide +kernel, by decide, by decide, ⟨by decide, by decide⟩, by decide +kernel⟩
theorem cf_Mo_told_Mo_isZero : zd_cf m_Mo_told m_Mo_isZero 1 := ⟨(List.mem_of_getElem? (i := 1001) (by decide +kernel)), by decide +kernel, by decide, by decide, ⟨by decide, by decide⟩, by decide +kernel⟩
theorem cf_Mo_told_Mo_no : zd_cf m_Mo_told m_Mo_no 1 := ⟨(List.mem_of_getElem? (i := 966) (by decide +kernel)), by decide +kernel, by decide, by decide, ⟨by decide, by decide⟩, by decide +kernel⟩
theorem cf_Mo_written_Mo_down3 : zd_cf m_Mo_written m_Mo_down3 1 := ⟨(List.mem_of_getElem? (i := 1158) (by decide +kernel)), by decide +kernel, by decide, by decide, ⟨by decide, by decide⟩, by decide +kernel⟩
theorem cf_Mo_written_Mo_exponent : zd_cf m_Mo_written m_Mo_exponent 1 := ⟨(List.mem_of_getElem? (i := 1155) (by decide +kernel)), by decide +kernel, by decide, by decide, ⟨by decide, by decide⟩, by decide +kernel⟩
theorem cf_Mo_written_Mo_figures : zd_cf m_Mo_written m_Mo_figures 4 := ⟨(List.mem_of_getElem? (i := 1151) (by decide +kernel)), by decide +kernel, by decide, by decide, ⟨by decide, by decide⟩, by decide +kernel⟩
theorem cf_Mo_written_Mo_isZero : zd_cf m_Mo_written m_Mo_isZero 1 := ⟨(List.mem_of_getElem? (i := 1001) (by decide +kernel)), by decide +kernel, by decide, by decide, ⟨by decide, by decide⟩, by decide +kernel⟩
theorem cf_Mo_written_Mo_no : zd_cf m_Mo_written m_Mo_no 1 := ⟨(List.mem_of_getElem? (i := 966) (by decide +kernel)), by decide +kernel, by decide, by decide, ⟨by decide, by decide⟩, by decide +kernel⟩
theorem cf_Mo_written_Mo_print : zd_cf m_Mo_written m_Mo_print 1 := ⟨(List.mem_of_getElem? (i := 1147) (by decide +kernel)), by decide +kernel, by decide, by decide, ⟨by decide, by decide⟩, by decide +kernel⟩
def dl_Mo_toScale : List (Nat × Instr × Nat) := [(0, .aload_n 0, 1), (1, .iload_n 1, 1), (2, .invokestatic 113, 3), (5, .ifCond .ne (32), 3), (8, .iload_n 2, 1), (9, .invokestatic 113, 3), (12, .ifCond .ne (25), 3), (15, .iload 4, 2), (17, .invokestatic 147, 3), (20, .ifCond .ne (17), 3), (23, .iload_n 3, 1), (24, .sipush (-10000), 3), (27, .if_icmp .lt (10), 3), (30, .iload_n 3, 1), (31, .sipush (10000), 3), (34, .if_icmp .le (7), 3), (37, .iconst (1), 1), (38, .goto (4), 3), (41, .iconst (0), 1), (42, .putfield 41, 3), (45, .aload_n 0, 1), (46, .getfield 41, 3), (49, .ifCond .ne (22), 3), (52, .aload_n 0, 1), (53, .iconst (2), 1), (54, .putfield 66, 3), (57, .aload_n 0, 1), (58, .iload_n 1, 1), (59, .invokevirtual 132, 3), (62, .aload_n 0, 1), (63, .iload_n 3, 1), (64, .i2l, 1), (65, .iload 4, 2), (67, .iload_n 2, 1), (68, .invokevirtual 170, 3), (71, .return_, 1)]
theorem dc_Mo_toScale : ∀ q ∈ dl_Mo_toScale, decode (zd_yb m_Mo_toScale) q.1 = .ok q.2 := by decide +kernel
def cm_Mo_toScale (l : Launch) (B : zd_B) : List (Nat × zm_S) := [(0, om_p (oc_aload 0 1)), (1, om_p (oc_iload 1 2)), (2, om_calls l B gM m_Mo_no 1 5), (5, om_p (oc_if_ne 37 8)), (8, om_p (oc_iload 2 9)), (9, om_calls l B gM m_Mo_no 1 12), (12, om_p (oc_if_ne 37 15)), (15, om_p (oc_iload 4 17)), (17, om_calls l B gM m_Mo_noMode 1 20), (20, om_p (oc_if_ne 37 23)), (23, om_p (oc_iload 3 24)), (24, om_p (oc_ci (-10000) 27)), (27, om_p (oc_icmp_lt 37 30)), (30, om_p (oc_iload 3 31)), (31, om_p (oc_ci (10000) 34)), (34, om_p (oc_icmp_le 41 37)), (37, om_p (oc_ci (1) 38)), (38, om_p (oc_goto 42)), (41, om_p (oc_ci (0) 42)), (42, om_puti gM 0 45), (45, om_p (oc_aload 0 46)), (46, om_getf gM 0 49), (49, om_p (oc_if_ne 71 52)), (52, om_p (oc_aload 0 53)), (53, om_p (oc_ci (2) 54)), (54, om_puti gM 20 57), (57, om_p (oc_aload 0 58)), (58, om_p (oc_iload 1 59)), (59, om_callv l B gM m_Mo_load 1 62), (62, om_p (oc_aload 0 63)), (63, om_p (oc_iload 3 64)), (64, om_p (oc_i2l 65)), (65, om_p (oc_iload 4 67)), (67, om_p (oc_iload 2 68)), (68, om_callv l B gM m_Mo_bring 3 71), (71, om_vret)]
set_option maxRecDepth 20000 in
theorem okm_Mo_toScale {l : Launch} {B : zd_B} (hG : zd_G B) (hl : l.stackTraces = false) : ∀ q ∈ cm_Mo_toScale l B, zm_ok l B gM m_Mo_toScale q.1 q.2 := by
  unfold cm_Mo_toScale
  refine zm_ac (om_pk nt_aload (ok_aload_n (l := l) (B := B) (y := m_Mo_toScale) (pc := 0) (k := 0) rfl (zd_dr dc_Mo_toScale 0 rfl))) ?_
  refine zm_ac (om_pk nt_iload (ok_iload_n (l := l) (B := B) (y := m_Mo_toScale) (pc := 1) (k := 1) rfl (zd_dr dc_Mo_toScale 1 rfl))) ?_
  refine zm_ac (ok_mcalls (ok_calls (l := l) (B := B) (y := m_Mo_toScale) (pc := 2) hG cf_Mo_toScale_Mo_no rfl (List.mem_of_getElem? (i := 964) (by decide +kernel)) (List.mem_of_getElem? (i := 965) (by decide +kernel)) (List.mem_of_getElem? (i := 64) (by decide +kernel)) (zd_dr dc_Mo_toScale 2 rfl))) ?_
  refine zm_ac (om_pk nt_if_ne (ok_if_ne (l := l) (B := B) (y := m_Mo_toScale) (pc := 5) (zd_dr dc_Mo_toScale 3 rfl) (by decide))) ?_
  refine zm_ac (om_pk nt_iload (ok_iload_n (l := l) (B := B) (y := m_Mo_toScale) (pc := 8) (k := 2) rfl (zd_dr dc_Mo_toScale 4 rfl))) ?_
  refine zm_ac (ok_mcalls (ok_calls (l := l) (B := B) (y := m_Mo_toScale) (pc := 9) hG cf_Mo_toScale_Mo_no rfl (List.mem_of_getElem? (i := 964) (by decide +kernel)) (List.mem_of_getElem? (i := 965) (by decide +kernel)) (List.mem_of_getElem? (i := 64) (by decide +kernel)) (zd_dr dc_Mo_toScale 5 rfl))) ?_
  refine zm_ac (om_pk nt_if_ne (ok_if_ne (l := l) (B := B) (y := m_Mo_toScale) (pc := 12) (zd_dr dc_Mo_toScale 6 rfl) (by decide))) ?_
  refine zm_ac (om_pk nt_iload (ok_iload (l := l) (B := B) (y := m_Mo_toScale) (pc := 15) (zd_dr dc_Mo_toScale 7 rfl))) ?_
  refine zm_ac (ok_mcalls (ok_calls (l := l) (B := B) (y := m_Mo_toScale) (pc := 17) hG cf_Mo_toScale_Mo_noMode rfl (List.mem_of_getElem? (i := 1035) (by decide +kernel)) (List.mem_of_getElem? (i := 1036) (by decide +kernel)) (List.mem_of_getElem? (i := 64) (by decide +kernel)) (zd_dr dc_Mo_toScale 8 rfl))) ?_
  refine zm_ac (om_pk nt_if_ne (ok_if_ne (l := l) (B := B) (y := m_Mo_toScale) (pc := 20) (zd_dr dc_Mo_toScale 9 rfl) (by decide))) ?_
  refine zm_ac (om_pk nt_iload (ok_iload_n (l := l) (B := B) (y := m_Mo_toScale) (pc := 23) (k := 3) rfl (zd_dr dc_Mo_toScale 10 rfl))) ?_
  refine zm_ac (om_pk nt_ci (ok_sipush (l := l) (B := B) (y := m_Mo_toScale) (pc := 24) (n := (-10000)) (zd_dr dc_Mo_toScale 11 rfl) rfl)) ?_
  refine zm_ac (om_pk nt_icmp_lt (ok_icmp_lt (l := l) (B := B) (y := m_Mo_toScale) (pc := 27) (zd_dr dc_Mo_toScale 12 rfl) (by decide))) ?_
  refine zm_ac (om_pk nt_iload (ok_iload_n (l := l) (B := B) (y := m_Mo_toScale) (pc := 30) (k := 3) rfl (zd_dr dc_Mo_toScale 13 rfl))) ?_
  refine zm_ac (om_pk nt_ci (ok_sipush (l := l) (B := B) (y := m_Mo_toScale) (pc := 31) (n := (10000)) (zd_dr dc_Mo_toScale 14 rfl) rfl)) ?_
  refine zm_ac (om_pk nt_icmp_le (ok_icmp_le (l := l) (B := B) (y := m_Mo_toScale) (pc := 34) (zd_dr dc_Mo_toScale 15 rfl) (by decide))) ?_
  refine zm_ac (om_pk nt_ci (ok_iconst (l := l) (B := B) (y := m_Mo_toScale) (pc := 37) (n := (1)) (zd_dr dc_Mo_toScale 16 rfl) rfl)) ?_
  refine zm_ac (om_pk nt_goto (ok_goto (l := l) (B := B) (y := m_Mo_toScale) (pc := 38) (zd_dr dc_Mo_toScale 17 rfl) (by decide))) ?_
  refine zm_ac (om_pk nt_ci (ok_iconst (l := l) (B := B) (y := m_Mo_toScale) (pc := 41) (n := (0)) (zd_dr dc_Mo_toScale 18 rfl) rfl)) ?_
  refine zm_ac (ok_mputi rfl (ok_putf (l := l) (B := B) (y := m_Mo_toScale) (pc := 42) hG (C := zR8) (T := zT8) (N := 21) (ci := 8) (k := 0) rfl zl8 zt8 (by decide) (List.mem_of_getElem? (i := 882) (by decide +kernel)) rfl (zd_dr dc_Mo_toScale 19 rfl))) ?_
  refine zm_ac (om_pk nt_aload (ok_aload_n (l := l) (B := B) (y := m_Mo_toScale) (pc := 45) (k := 0) rfl (zd_dr dc_Mo_toScale 20 rfl))) ?_
  refine zm_ac (ok_mgetf rfl (ok_getf (l := l) (B := B) (y := m_Mo_toScale) (pc := 46) hG (C := zR8) (T := zT8) (N := 21) (ci := 8) (k := 0) rfl zl8 (by decide) (List.mem_of_getElem? (i := 882) (by decide +kernel)) (zd_dr dc_Mo_toScale 21 rfl))) ?_
  refine zm_ac (om_pk nt_if_ne (ok_if_ne (l := l) (B := B) (y := m_Mo_toScale) (pc := 49) (zd_dr dc_Mo_toScale 22 rfl) (by decide))) ?_
  refine zm_ac (om_pk nt_aload (ok_aload_n (l := l) (B := B) (y := m_Mo_toScale) (pc := 52) (k := 0) rfl (zd_dr dc_Mo_toScale 23 rfl))) ?_
  refine zm_ac (om_pk nt_ci (ok_iconst (l := l) (B := B) (y := m_Mo_toScale) (pc := 53) (n := (2)) (zd_dr dc_Mo_toScale 24 rfl) rfl)) ?_
  refine zm_ac (ok_mputi rfl (ok_putf (l := l) (B := B) (y := m_Mo_toScale) (pc := 54) hG (C := zR8) (T := zT8) (N := 21) (ci := 8) (k := 20) rfl zl8 zt8 (by decide) (List.mem_of_getElem? (i := 902) (by decide +kernel)) rfl (zd_dr dc_Mo_toScale 25 rfl))) ?_
  refine zm_ac (om_pk nt_aload (ok_aload_n (l := l) (B := B) (y := m_Mo_toScale) (pc := 57) (k := 0) rfl (zd_dr dc_Mo_toScale 26 rfl))) ?_
  refine zm_ac (om_pk nt_iload (ok_iload_n (l := l) (B := B) (y := m_Mo_toScale) (pc := 58) (k := 1) rfl (zd_dr dc_Mo_toScale 27 rfl))) ?_
  refine zm_ac (ok_mcallv rfl (ok_callv (l := l) (B := B) (y := m_Mo_toScale) (pc := 59) hG (ci := 8) rfl cf_Mo_toScale_Mo_load rfl (List.mem_of_getElem? (i := 1019) (by decide +kernel)) (List.mem_of_getElem? (i := 1021) (by decide +kernel)) (List.mem_of_getElem? (i := 34) (by decide +kernel)) (zd_dr dc_Mo_toScale 28 rfl))) ?_
  refine zm_ac (om_pk nt_aload (ok_aload_n (l := l) (B := B) (y := m_Mo_toScale) (pc := 62) (k := 0) rfl (zd_dr dc_Mo_toScale 29 rfl))) ?_
  refine zm_ac (om_pk nt_iload (ok_iload_n (l := l) (B := B) (y := m_Mo_toScale) (pc := 63) (k := 3) rfl (zd_dr dc_Mo_toScale 30 rfl))) ?_
  refine zm_ac (om_pk nt_i2l (ok_i2l (l := l) (B := B) (y := m_Mo_toScale) (pc := 64) (zd_dr dc_Mo_toScale 31 rfl))) ?_
  refine zm_ac (om_pk nt_iload (ok_iload (l := l) (B := B) (y := m_Mo_toScale) (pc := 65) (zd_dr dc_Mo_toScale 32 rfl))) ?_
  refine zm_ac (om_pk nt_iload (ok_iload_n (l := l) (B := B) (y := m_Mo_toScale) (pc := 67) (k := 2) rfl (zd_dr dc_Mo_toScale 33 rfl))) ?_
  refine zm_ac (ok_mcallv rfl (ok_callv (l := l) (B := B) (y := m_Mo_toScale) (pc := 68) hG (ci := 8) rfl cf_Mo_toScale_Mo_bring rfl (List.mem_of_getElem? (i := 1100) (by decide +kernel)) (List.mem_of_getElem? (i := 1102) (by decide +kernel)) (List.mem_of_getElem? (i := 49) (by decide +kernel)) (zd_dr dc_Mo_toScale 34 rfl))) ?_
  refine zm_ac (ok_mvret (ok_vret (l := l) (B := B) (y := m_Mo_toScale) (pc := 71) rfl (zd_dr dc_Mo_toScale 35 rfl))) ?_
  exact zm_an
def dl_Mo_round : List (Nat × Instr × Nat) := [(0, .aload_n 0, 1), (1, .iload_n 1, 1), (2, .invokestatic 113, 3), (5, .ifCond .ne (30), 3), (8, .iload_n 2, 1), (9, .invokestatic 113, 3), (12, .ifCond .ne (23), 3), (15, .iload 4, 2), (17, .invokestatic 147, 3), (20, .ifCond .ne (15), 3), (23, .iload_n 3, 1), (24, .iconst (1), 1), (25, .if_icmp .lt (10), 3), (28, .iload_n 3, 1), (29, .sipush (1000), 3), (32, .if_icmp .le (7), 3), (35, .iconst (1), 1), (36, .goto (4), 3), (39, .iconst (0), 1), (40, .putfield 41, 3), (43, .aload_n 0, 1), (44, .getfield 41, 3), (47, .ifCond .ne (28), 3), (50, .aload_n 0, 1), (51, .iconst (2), 1), (52, .putfield 66, 3), (55, .aload_n 0, 1), (56, .iload_n 1, 1), (57, .invokevirtual 132, 3), (60, .aload_n 0, 1), (61, .iload_n 3, 1), (62, .aload_n 0, 1), (63, .getfield 23, 3), (66, .iload_n 1, 1), (67, .iaload, 1), (68, .i2l, 1), (69, .iload 4, 2), (71, .iload_n 2, 1), (72, .invokevirtual 166, 3), (75, .return_, 1)]
theorem dc_Mo_round : ∀ q ∈ dl_Mo_round, decode (zd_yb m_Mo_round) q.1 = .ok q.2 := by decide +kernel
def cm_Mo_round (l : Launch) (B : zd_B) : List (Nat × zm_S) := [(0, om_p (oc_aload 0 1)), (1, om_p (oc_iload 1 2)), (2, om_calls l B gM m_Mo_no 1 5), (5, om_p (oc_if_ne 35 8)), (8, om_p (oc_iload 2 9)), (9, om_calls l B gM m_Mo_no 1 12), (12, om_p (oc_if_ne 35 15)), (15, om_p (oc_iload 4 17)), (17, om_calls l B gM m_Mo_noMode 1 20), (20, om_p (oc_if_ne 35 23)), (23, om_p (oc_iload 3 24)), (24, om_p (oc_ci (1) 25)), (25, om_p (oc_icmp_lt 35 28)), (28, om_p (oc_iload 3 29)), (29, om_p (oc_ci (1000) 32)), (32, om_p (oc_icmp_le 39 35)), (35, om_p (oc_ci (1) 36)), (36, om_p (oc_goto 40)), (39, om_p (oc_ci (0) 40)), (40, om_puti gM 0 43), (43, om_p (oc_aload 0 44)), (44, om_getf gM 0 47), (47, om_p (oc_if_ne 75 50)), (50, om_p (oc_aload 0 51)), (51, om_p (oc_ci (2) 52)), (52, om_puti gM 20 55), (55, om_p (oc_aload 0 56)), (56, om_p (oc_iload 1 57)), (57, om_callv l B gM m_Mo_load 1 60), (60, om_p (oc_aload 0 61)), (61, om_p (oc_iload 3 62)), (62, om_p (oc_aload 0 63)), (63, om_getf gM 6 66), (66, om_p (oc_iload 1 67)), (67, om_ald gM 0 68), (68, om_p (oc_i2l 69)), (69, om_p (oc_iload 4 71)), (71, om_p (oc_iload 2 72)), (72, om_callv l B gM m_Mo_toPrecision 4 75), (75, om_vret)]
set_option maxRecDepth 20000 in
theorem okm_Mo_round {l : Launch} {B : zd_B} (hG : zd_G B) (hl : l.stackTraces = false) : ∀ q ∈ cm_Mo_round l B, zm_ok l B gM m_Mo_round q.1 q.2 := by
  unfold cm_Mo_round
  refine zm_ac (om_pk nt_aload (ok_aload_n (l := l) (B := B) (y := m_Mo_round) (pc := 0) (k := 0) rfl (zd_dr dc_Mo_round 0 rfl))) ?_
  refine zm_ac (om_pk nt_iload (ok_iload_n (l := l) (B := B) (y := m_Mo_round) (pc := 1) (k := 1) rfl (zd_dr dc_Mo_round 1 rfl))) ?_
  refine zm_ac (ok_mcalls (ok_calls (l := l) (B := B) (y := m_Mo_round) (pc := 2) hG cf_Mo_round_Mo_no rfl (List.mem_of_getElem? (i := 964) (by decide +kernel)) (List.mem_of_getElem? (i := 965) (by decide +kernel)) (List.mem_of_getElem? (i := 64) (by decide +kernel)) (zd_dr dc_Mo_round 2 rfl))) ?_
  refine zm_ac (om_pk nt_if_ne (ok_if_ne (l := l) (B := B) (y := m_Mo_round) (pc := 5) (zd_dr dc_Mo_round 3 rfl) (by decide))) ?_
  refine zm_ac (om_pk nt_iload (ok_iload_n (l := l) (B := B) (y := m_Mo_round) (pc := 8) (k := 2) rfl (zd_dr dc_Mo_round 4 rfl))) ?_
  refine zm_ac (ok_mcalls (ok_calls (l := l) (B := B) (y := m_Mo_round) (pc := 9) hG cf_Mo_round_Mo_no rfl (List.mem_of_getElem? (i := 964) (by decide +kernel)) (List.mem_of_getElem? (i := 965) (by decide +kernel)) (List.mem_of_getElem? (i := 64) (by decide +kernel)) (zd_dr dc_Mo_round 5 rfl))) ?_
  refine zm_ac (om_pk nt_if_ne (ok_if_ne (l := l) (B := B) (y := m_Mo_round) (pc := 12) (zd_dr dc_Mo_round 6 rfl) (by decide))) ?_
  refine zm_ac (om_pk nt_iload (ok_iload (l := l) (B := B) (y := m_Mo_round) (pc := 15) (zd_dr dc_Mo_round 7 rfl))) ?_
  refine zm_ac (ok_mcalls (ok_calls (l := l) (B := B) (y := m_Mo_round) (pc := 17) hG cf_Mo_round_Mo_noMode rfl (List.mem_of_getElem? (i := 1035) (by decide +kernel)) (List.mem_of_getElem? (i := 1036) (by decide +kernel)) (List.mem_of_getElem? (i := 64) (by decide +kernel)) (zd_dr dc_Mo_round 8 rfl))) ?_
  refine zm_ac (om_pk nt_if_ne (ok_if_ne (l := l) (B := B) (y := m_Mo_round) (pc := 20) (zd_dr dc_Mo_round 9 rfl) (by decide))) ?_
  refine zm_ac (om_pk nt_iload (ok_iload_n (l := l) (B := B) (y := m_Mo_round) (pc := 23) (k := 3) rfl (zd_dr dc_Mo_round 10 rfl))) ?_
  refine zm_ac (om_pk nt_ci (ok_iconst (l := l) (B := B) (y := m_Mo_round) (pc := 24) (n := (1)) (zd_dr dc_Mo_round 11 rfl) rfl)) ?_
  refine zm_ac (om_pk nt_icmp_lt (ok_icmp_lt (l := l) (B := B) (y := m_Mo_round) (pc := 25) (zd_dr dc_Mo_round 12 rfl) (by decide))) ?_
  refine zm_ac (om_pk nt_iload (ok_iload_n (l := l) (B := B) (y := m_Mo_round) (pc := 28) (k := 3) rfl (zd_dr dc_Mo_round 13 rfl))) ?_
  refine zm_ac (om_pk nt_ci (ok_sipush (l := l) (B := B) (y := m_Mo_round) (pc := 29) (n := (1000)) (zd_dr dc_Mo_round 14 rfl) rfl)) ?_
  refine zm_ac (om_pk nt_icmp_le (ok_icmp_le (l := l) (B := B) (y := m_Mo_round) (pc := 32) (zd_dr dc_Mo_round 15 rfl) (by decide))) ?_
  refine zm_ac (om_pk nt_ci (ok_iconst (l := l) (B := B) (y := m_Mo_round) (pc := 35) (n := (1)) (zd_dr dc_Mo_round 16 rfl) rfl)) ?_
  refine zm_ac (om_pk nt_goto (ok_goto (l := l) (B := B) (y := m_Mo_round) (pc := 36) (zd_dr dc_Mo_round 17 rfl) (by decide))) ?_
  refine zm_ac (om_pk nt_ci (ok_iconst (l := l) (B := B) (y := m_Mo_round) (pc := 39) (n := (0)) (zd_dr dc_Mo_round 18 rfl) rfl)) ?_
  refine zm_ac (ok_mputi rfl (ok_putf (l := l) (B := B) (y := m_Mo_round) (pc := 40) hG (C := zR8) (T := zT8) (N := 21) (ci := 8) (k := 0) rfl zl8 zt8 (by decide) (List.mem_of_getElem? (i := 882) (by decide +kernel)) rfl (zd_dr dc_Mo_round 19 rfl))) ?_
  refine zm_ac (om_pk nt_aload (ok_aload_n (l := l) (B := B) (y := m_Mo_round) (pc := 43) (k := 0) rfl (zd_dr dc_Mo_round 20 rfl))) ?_
  refine zm_ac (ok_mgetf rfl (ok_getf (l := l) (B := B) (y := m_Mo_round) (pc := 44) hG (C := zR8) (T := zT8) (N := 21) (ci := 8) (k := 0) rfl zl8 (by decide) (List.mem_of_getElem? (i := 882) (by decide +kernel)) (zd_dr dc_Mo_round 21 rfl))) ?_
  refine zm_ac (om_pk nt_if_ne (ok_if_ne (l := l) (B := B) (y := m_Mo_round) (pc := 47) (zd_dr dc_Mo_round 22 rfl) (by decide))) ?_
  refine zm_ac (om_pk nt_aload (ok_aload_n (l := l) (B := B) (y := m_Mo_round) (pc := 50) (k := 0) rfl (zd_dr dc_Mo_round 23 rfl))) ?_
  refine zm_ac (om_pk nt_ci (ok_iconst (l := l) (B := B) (y := m_Mo_round) (pc := 51) (n := (2)) (zd_dr dc_Mo_round 24 rfl) rfl)) ?_
  refine zm_ac (ok_mputi rfl (ok_putf (l := l) (B := B) (y := m_Mo_round) (pc := 52) hG (C := zR8) (T := zT8) (N := 21) (ci := 8) (k := 20) rfl zl8 zt8 (by decide) (List.mem_of_getElem? (i := 902) (by decide +kernel)) rfl (zd_dr dc_Mo_round 25 rfl))) ?_
  refine zm_ac (om_pk nt_aload (ok_aload_n (l := l) (B := B) (y := m_Mo_round) (pc := 55) (k := 0) rfl (zd_dr dc_Mo_round 26 rfl))) ?_
  refine zm_ac (om_pk nt_iload (ok_iload_n (l := l) (B := B) (y := m_Mo_round) (pc := 56) (k := 1) rfl (zd_dr dc_Mo_round 27 rfl))) ?_
  refine zm_ac (ok_mcallv rfl (ok_callv (l := l) (B := B) (y := m_Mo_round) (pc := 57) hG (ci := 8) rfl cf_Mo_round_Mo_load rfl (List.mem_of_getElem? (i := 1019) (by decide +kernel)) (List.mem_of_getElem? (i := 1021) (by decide +kernel)) (List.mem_of_getElem? (i := 34) (by decide +kernel)) (zd_dr dc_Mo_round 28 rfl))) ?_
  refine zm_ac (om_pk nt_aload (ok_aload_n (l := l) (B := B) (y := m_Mo_round) (pc := 60) (k := 0) rfl (zd_dr dc_Mo_round 29 rfl))) ?_
  refine zm_ac (om_pk nt_iload (ok_iload_n (l := l) (B := B) (y := m_Mo_round) (pc := 61) (k := 3) rfl (zd_dr dc_Mo_round 30 rfl))) ?_
  refine zm_ac (om_pk nt_aload (ok_aload_n (l := l) (B := B) (y := m_Mo_round) (pc := 62) (k := 0) rfl (zd_dr dc_Mo_round 31 rfl))) ?_
  refine zm_ac (ok_mgetf rfl (ok_getf (l := l) (B := B) (y := m_Mo_round) (pc := 63) hG (C := zR8) (T := zT8) (N := 21) (ci := 8) (k := 6) rfl zl8 (by decide) (List.mem_of_getElem? (i := 888) (by decide +kernel)) (zd_dr dc_Mo_round 32 rfl))) ?_
  refine zm_ac (om_pk nt_iload (ok_iload_n (l := l) (B := B) (y := m_Mo_round) (pc := 66) (k := 1) rfl (zd_dr dc_Mo_round 33 rfl))) ?_
  refine zm_ac (ok_miaload (ok_iaload (l := l) (B := B) (y := m_Mo_round) (pc := 67) hG (zd_dr dc_Mo_round 34 rfl))) ?_
  refine zm_ac (om_pk nt_i2l (ok_i2l (l := l) (B := B) (y := m_Mo_round) (pc := 68) (zd_dr dc_Mo_round 35 rfl))) ?_
  refine zm_ac (om_pk nt_iload (ok_iload (l := l) (B := B) (y := m_Mo_round) (pc := 69) (zd_dr dc_Mo_round 36 rfl))) ?_
  refine zm_ac (om_pk nt_iload (ok_iload_n (l := l) (B := B) (y := m_Mo_round) (pc := 71) (k := 2) rfl (zd_dr dc_Mo_round 37 rfl))) ?_
  refine zm_ac (ok_mcallv rfl (ok_callv (l := l) (B := B) (y := m_Mo_round) (pc := 72) hG (ci := 8) rfl cf_Mo_round_Mo_toPrecision rfl (List.mem_of_getElem? (i := 1084) (by decide +kernel)) (List.mem_of_getElem? (i := 1086) (by decide +kernel)) (List.mem_of_getElem? (i := 46) (by decide +kernel)) (zd_dr dc_Mo_round 38 rfl))) ?_
  refine zm_ac (ok_mvret (ok_vret (l := l) (B := B) (y := m_Mo_round) (pc := 75) rfl (zd_dr dc_Mo_round 39 rfl))) ?_
  exact zm_an
def dl_Mo_strip : List (Nat × Instr × Nat) := [(0, .aload_n 0, 1), (1, .iload_n 1, 1), (2, .invokestatic 113, 3), (5, .ifCond .ne (10), 3), (8, .iload_n 2, 1), (9, .invokestatic 113, 3), (12, .ifCond .eq (7), 3), (15, .iconst (1), 1), (16, .goto (4), 3), (19, .iconst (0), 1), (20, .putfield 41, 3), (23, .aload_n 0, 1), (24, .getfield 41, 3), (27, .ifCond .le (4), 3), (30, .return_, 1), (31, .aload_n 0, 1), (32, .iconst (2), 1), (33, .putfield 66, 3), (36, .aload_n 0, 1), (37, .iload_n 1, 1), (38, .invokevirtual 132, 3), (41, .aload_n 0, 1), (42, .getfield 26, 3), (45, .iconst (0), 1), (46, .iaload, 1), (47, .ifCond .ne (11), 3), (50, .aload_n 0, 1), (51, .lconst 0, 1), (52, .putfield 48, 3), (55, .goto (29), 3), (58, .aload_n 0, 1), (59, .invokevirtual 93, 3), (62, .istore_n 3, 1), (63, .aload_n 0, 1), (64, .aload_n 0, 1), (65, .getfield 48, 3), (68, .aload_n 0, 1), (69, .getfield 45, 3), (72, .iload_n 3, 1), (73, .isub, 1), (74, .i2l, 1), (75, .lsub, 1), (76, .putfield 48, 3), (79, .aload_n 0, 1), (80, .iload_n 3, 1), (81, .putfield 45, 3), (84, .aload_n 0, 1), (85, .iload_n 2, 1), (86, .invokevirtual 89, 3), (89, .return_, 1)]
theorem dc_Mo_strip : ∀ q ∈ dl_Mo_strip, decode (zd_yb m_Mo_strip) q.1 = .ok q.2 := by decide +kernel
def cm_Mo_strip (l : Launch) (B : zd_B) : List (Nat × zm_S) := [(0, om_p (oc_aload 0 1)), (1, om_p (oc_iload 1 2)), (2, om_calls l B gM m_Mo_no 1 5), (5, om_p (oc_if_ne 15 8)), (8, om_p (oc_iload 2 9)), (9, om_calls l B gM m_Mo_no 1 12), (12, om_p (oc_if_eq 19 15)), (15, om_p (oc_ci (1) 16)), (16, om_p (oc_goto 20)), (19, om_p (oc_ci (0) 20)), (20, om_puti gM 0 23), (23, om_p (oc_aload 0 24)), (24, om_getf gM 0 27), (27, om_p (oc_if_le 31 30)), (30, om_vret), (31, om_p (oc_aload 0 32)), (32, om_p (oc_ci (2) 33)), (33, om_puti gM 20 36), (36, om_p (oc_aload 0 37)), (37, om_p (oc_iload 1 38)), (38, om_callv l B gM m_Mo_load 1 41), (41, om_p (oc_aload 0 42)), (42, om_getf gM 7 45), (45, om_p (oc_ci (0) 46)), (46, om_ald gM 0 47), (47, om_p (oc_if_ne 58 50)), (50, om_p (oc_aload 0 51)), (51, om_p (oc_cl 0 52)), (52, om_putl gM 9 55), (55, om_p (oc_goto 84)), (58, om_p (oc_aload 0 59)), (59, om_callv l B gM m_Mo_needed 0 62), (62, om_p (oc_istore 3 63)), (63, om_p (oc_aload 0 64)), (64, om_p (oc_aload 0 65)), (65, om_getf gM 9 68), (68, om_p (oc_aload 0 69)), (69, om_getf gM 8 72), (72, om_p (oc_iload 3 73)), (73, om_p (oc_isub 74)), (74, om_p (oc_i2l 75)), (75, om_p (oc_lsub 76)), (76, om_putl gM 9 79), (79, om_p (oc_aload 0 80)), (80, om_p (oc_iload 3 81)), (81, om_puti gM 8 84), (84, om_p (oc_aload 0 85)), (85, om_p (oc_iload 2 86)), (86, om_callv l B gM m_Mo_store 1 89), (89, om_vret)]
set_option maxRecDepth 20000 in
theorem okm_Mo_strip {l : Launch} {B : zd_B} (hG : zd_G B) (hl : l.stackTraces = false) : ∀ q ∈ cm_Mo_strip l B, zm_ok l B gM m_Mo_strip q.1 q.2 := by
  unfold cm_Mo_strip
  refine zm_ac (om_pk nt_aload (ok_aload_n (l := l) (B := B) (y := m_Mo_strip) (pc := 0) (k := 0) rfl (zd_dr dc_Mo_strip 0 rfl))) ?_
  refine zm_ac (om_pk nt_iload (ok_iload_n (l := l) (B := B) (y := m_Mo_strip) (pc := 1) (k := 1) rfl (zd_dr dc_Mo_strip 1 rfl))) ?_
  refine zm_ac (ok_mcalls (ok_calls (l := l) (B := B) (y := m_Mo_strip) (pc := 2) hG cf_Mo_strip_Mo_no rfl (List.mem_of_getElem? (i := 964) (by decide +kernel)) (List.mem_of_getElem? (i := 965) (by decide +kernel)) (List.mem_of_getElem? (i := 64) (by decide +kernel)) (zd_dr dc_Mo_strip 2 rfl))) ?_
  refine zm_ac (om_pk nt_if_ne (ok_if_ne (l := l) (B := B) (y := m_Mo_strip) (pc := 5) (zd_dr dc_Mo_strip 3 rfl) (by decide))) ?_
  refine zm_ac (om_pk nt_iload (ok_iload_n (l := l) (B := B) (y := m_Mo_strip) (pc := 8) (k := 2) rfl (zd_dr dc_Mo_strip 4 rfl))) ?_
  refine zm_ac (ok_mcalls (ok_calls (l := l) (B := B) (y := m_Mo_strip) (pc := 9) hG cf_Mo_strip_Mo_no rfl (List.mem_of_getElem? (i := 964) (by decide +kernel)) (List.mem_of_getElem? (i := 965) (by decide +kernel)) (List.mem_of_getElem? (i := 64) (by decide +kernel)) (zd_dr dc_Mo_strip 5 rfl))) ?_
  refine zm_ac (om_pk nt_if_eq (ok_if_eq (l := l) (B := B) (y := m_Mo_strip) (pc := 12) (zd_dr dc_Mo_strip 6 rfl) (by decide))) ?_
  refine zm_ac (om_pk nt_ci (ok_iconst (l := l) (B := B) (y := m_Mo_strip) (pc := 15) (n := (1)) (zd_dr dc_Mo_strip 7 rfl) rfl)) ?_
  refine zm_ac (om_pk nt_goto (ok_goto (l := l) (B := B) (y := m_Mo_strip) (pc := 16) (zd_dr dc_Mo_strip 8 rfl) (by decide))) ?_
  refine zm_ac (om_pk nt_ci (ok_iconst (l := l) (B := B) (y := m_Mo_strip) (pc := 19) (n := (0)) (zd_dr dc_Mo_strip 9 rfl) rfl)) ?_
  refine zm_ac (ok_mputi rfl (ok_putf (l := l) (B := B) (y := m_Mo_strip) (pc := 20) hG (C := zR8) (T := zT8) (N := 21) (ci := 8) (k := 0) rfl zl8 zt8 (by decide) (List.mem_of_getElem? (i := 882) (by decide +kernel)) rfl (zd_dr dc_Mo_strip 10 rfl))) ?_
  refine zm_ac (om_pk nt_aload (ok_aload_n (l := l) (B := B) (y := m_Mo_strip) (pc := 23) (k := 0) rfl (zd_dr dc_Mo_strip 11 rfl))) ?_
  refine zm_ac (ok_mgetf rfl (ok_getf (l := l) (B := B) (y := m_Mo_strip) (pc := 24) hG (C := zR8) (T := zT8) (N := 21) (ci := 8) (k := 0) rfl zl8 (by decide) (List.mem_of_getElem? (i := 882) (by decide +kernel)) (zd_dr dc_Mo_strip 12 rfl))) ?_
  refine zm_ac (om_pk nt_if_le (ok_if_le (l := l) (B := B) (y := m_Mo_strip) (pc := 27) (zd_dr dc_Mo_strip 13 rfl) (by decide))) ?_
  refine zm_ac (ok_mvret (ok_vret (l := l) (B := B) (y := m_Mo_strip) (pc := 30) rfl (zd_dr dc_Mo_strip 14 rfl))) ?_
  refine zm_ac (om_pk nt_aload (ok_aload_n (l := l) (B := B) (y := m_Mo_strip) (pc := 31) (k := 0) rfl (zd_dr dc_Mo_strip 15 rfl))) ?_
  refine zm_ac (om_pk nt_ci (ok_iconst (l := l) (B := B) (y := m_Mo_strip) (pc := 32) (n := (2)) (zd_dr dc_Mo_strip 16 rfl) rfl)) ?_
  refine zm_ac (ok_mputi rfl (ok_putf (l := l) (B := B) (y := m_Mo_strip) (pc := 33) hG (C := zR8) (T := zT8) (N := 21) (ci := 8) (k := 20) rfl zl8 zt8 (by decide) (List.mem_of_getElem? (i := 902) (by decide +kernel)) rfl (zd_dr dc_Mo_strip 17 rfl))) ?_
  refine zm_ac (om_pk nt_aload (ok_aload_n (l := l) (B := B) (y := m_Mo_strip) (pc := 36) (k := 0) rfl (zd_dr dc_Mo_strip 18 rfl))) ?_
  refine zm_ac (om_pk nt_iload (ok_iload_n (l := l) (B := B) (y := m_Mo_strip) (pc := 37) (k := 1) rfl (zd_dr dc_Mo_strip 19 rfl))) ?_
  refine zm_ac (ok_mcallv rfl (ok_callv (l := l) (B := B) (y := m_Mo_strip) (pc := 38) hG (ci := 8) rfl cf_Mo_strip_Mo_load rfl (List.mem_of_getElem? (i := 1019) (by decide +kernel)) (List.mem_of_getElem? (i := 1021) (by decide +kernel)) (List.mem_of_getElem? (i := 34) (by decide +kernel)) (zd_dr dc_Mo_strip 20 rfl))) ?_
  refine zm_ac (om_pk nt_aload (ok_aload_n (l := l) (B := B) (y := m_Mo_strip) (pc := 41) (k := 0) rfl (zd_dr dc_Mo_strip 21 rfl))) ?_
  refine zm_ac (ok_mgetf rfl (ok_getf (l := l) (B := B) (y := m_Mo_strip) (pc := 42) hG (C := zR8) (T := zT8) (N := 21) (ci := 8) (k := 7) rfl zl8 (by decide) (List.mem_of_getElem? (i := 889) (by decide +kernel)) (zd_dr dc_Mo_strip 22 rfl))) ?_
  refine zm_ac (om_pk nt_ci (ok_iconst (l := l) (B := B) (y := m_Mo_strip) (pc := 45) (n := (0)) (zd_dr dc_Mo_strip 23 rfl) rfl)) ?_
  refine zm_ac (ok_miaload (ok_iaload (l := l) (B := B) (y := m_Mo_strip) (pc := 46) hG (zd_dr dc_Mo_strip 24 rfl))) ?_
  refine zm_ac (om_pk nt_if_ne (ok_if_ne (l := l) (B := B) (y := m_Mo_strip) (pc := 47) (zd_dr dc_Mo_strip 25 rfl) (by decide))) ?_
  refine zm_ac (om_pk nt_aload (ok_aload_n (l := l) (B := B) (y := m_Mo_strip) (pc := 50) (k := 0) rfl (zd_dr dc_Mo_strip 26 rfl))) ?_
  refine zm_ac (om_pk nt_cl (ok_lconst (l := l) (B := B) (y := m_Mo_strip) (pc := 51) (n := 0) (zd_dr dc_Mo_strip 27 rfl) rfl)) ?_
  refine zm_ac (ok_mputl rfl (ok_putf (l := l) (B := B) (y := m_Mo_strip) (pc := 52) hG (C := zR8) (T := zT8) (N := 21) (ci := 8) (k := 9) rfl zl8 zt8 (by decide) (List.mem_of_getElem? (i := 891) (by decide +kernel)) rfl (zd_dr dc_Mo_strip 28 rfl))) ?_
  refine zm_ac (om_pk nt_goto (ok_goto (l := l) (B := B) (y := m_Mo_strip) (pc := 55) (zd_dr dc_Mo_strip 29 rfl) (by decide))) ?_
  refine zm_ac (om_pk nt_aload (ok_aload_n (l := l) (B := B) (y := m_Mo_strip) (pc := 58) (k := 0) rfl (zd_dr dc_Mo_strip 30 rfl))) ?_
  refine zm_ac (ok_mcallv rfl (ok_callv (l := l) (B := B) (y := m_Mo_strip) (pc := 59) hG (ci := 8) rfl cf_Mo_strip_Mo_needed rfl (List.mem_of_getElem? (i := 1088) (by decide +kernel)) (List.mem_of_getElem? (i := 1090) (by decide +kernel)) (List.mem_of_getElem? (i := 47) (by decide +kernel)) (zd_dr dc_Mo_strip 31 rfl))) ?_
  refine zm_ac (om_pk nt_istore (ok_istore_n (l := l) (B := B) (y := m_Mo_strip) (pc := 62) (k := 3) rfl (zd_dr dc_Mo_strip 32 rfl) (by decide))) ?_
  refine zm_ac (om_pk nt_aload (ok_aload_n (l := l) (B := B) (y := m_Mo_strip) (pc := 63) (k := 0) rfl (zd_dr dc_Mo_strip 33 rfl))) ?_
  refine zm_ac (om_pk nt_aload (ok_aload_n (l := l) (B := B) (y := m_Mo_strip) (pc := 64) (k := 0) rfl (zd_dr dc_Mo_strip 34 rfl))) ?_
  refine zm_ac (ok_mgetf rfl (ok_getf (l := l) (B := B) (y := m_Mo_strip) (pc := 65) hG (C := zR8) (T := zT8) (N := 21) (ci := 8) (k := 9) rfl zl8 (by decide) (List.mem_of_getElem? (i := 891) (by decide +kernel)) (zd_dr dc_Mo_strip 35 rfl))) ?_
  refine zm_ac (om_pk nt_aload (ok_aload_n (l := l) (B := B) (y := m_Mo_strip) (pc := 68) (k := 0) rfl (zd_dr dc_Mo_strip 36 rfl))) ?_
  refine zm_ac (ok_mgetf rfl (ok_getf (l := l) (B := B) (y := m_Mo_strip) (pc := 69) hG (C := zR8) (T := zT8) (N := 21) (ci := 8) (k := 8) rfl zl8 (by decide) (List.mem_of_getElem? (i := 890) (by decide +kernel)) (zd_dr dc_Mo_strip 37 rfl))) ?_
  refine zm_ac (om_pk nt_iload (ok_iload_n (l := l) (B := B) (y := m_Mo_strip) (pc := 72) (k := 3) rfl (zd_dr dc_Mo_strip 38 rfl))) ?_
  refine zm_ac (om_pk nt_isub (ok_isub (l := l) (B := B) (y := m_Mo_strip) (pc := 73) (zd_dr dc_Mo_strip 39 rfl))) ?_
  refine zm_ac (om_pk nt_i2l (ok_i2l (l := l) (B := B) (y := m_Mo_strip) (pc := 74) (zd_dr dc_Mo_strip 40 rfl))) ?_
  refine zm_ac (om_pk nt_lsub (ok_lsub (l := l) (B := B) (y := m_Mo_strip) (pc := 75) (zd_dr dc_Mo_strip 41 rfl))) ?_
  refine zm_ac (ok_mputl rfl (ok_putf (l := l) (B := B) (y := m_Mo_strip) (pc := 76) hG (C := zR8) (T := zT8) (N := 21) (ci := 8) (k := 9) rfl zl8 zt8 (by decide) (List.mem_of_getElem? (i := 891) (by decide +kernel)) rfl (zd_dr dc_Mo_strip 42 rfl))) ?_
  refine zm_ac (om_pk nt_aload (ok_aload_n (l := l) (B := B) (y := m_Mo_strip) (pc := 79) (k := 0) rfl (zd_dr dc_Mo_strip 43 rfl))) ?_
  refine zm_ac (om_pk nt_iload (ok_iload_n (l := l) (B := B) (y := m_Mo_strip) (pc := 80) (k := 3) rfl (zd_dr dc_Mo_strip 44 rfl))) ?_
  refine zm_ac (ok_mputi rfl (ok_putf (l := l) (B := B) (y := m_Mo_strip) (pc := 81) hG (C := zR8) (T := zT8) (N := 21) (ci := 8) (k := 8) rfl zl8 zt8 (by decide) (List.mem_of_getElem? (i := 890) (by decide +kernel)) rfl (zd_dr dc_Mo_strip 45 rfl))) ?_
  refine zm_ac (om_pk nt_aload (ok_aload_n (l := l) (B := B) (y := m_Mo_strip) (pc := 84) (k := 0) rfl (zd_dr dc_Mo_strip 46 rfl))) ?_
  refine zm_ac (om_pk nt_iload (ok_iload_n (l := l) (B := B) (y := m_Mo_strip) (pc := 85) (k := 2) rfl (zd_dr dc_Mo_strip 47 rfl))) ?_
  refine zm_ac (ok_mcallv rfl (ok_callv (l := l) (B := B) (y := m_Mo_strip) (pc := 86) hG (ci := 8) rfl cf_Mo_strip_Mo_store rfl (List.mem_of_getElem? (i := 980) (by decide +kernel)) (List.mem_of_getElem? (i := 982) (by decide +kernel)) (List.mem_of_getElem? (i := 29) (by decide +kernel)) (zd_dr dc_Mo_strip 48 rfl))) ?_
  refine zm_ac (ok_mvret (ok_vret (l := l) (B := B) (y := m_Mo_strip) (pc := 89) rfl (zd_dr dc_Mo_strip 49 rfl))) ?_
  exact zm_an
def dl_Mo_shift : List (Nat × Instr × Nat) := [(0, .aload_n 0, 1), (1, .iload_n 1, 1), (2, .invokestatic 113, 3), (5, .ifCond .ne (10), 3), (8, .iload_n 2, 1), (9, .invokestatic 113, 3), (12, .ifCond .eq (7), 3), (15, .iconst (1), 1), (16, .goto (4), 3), (19, .iconst (0), 1), (20, .putfield 41, 3), (23, .aload_n 0, 1), (24, .getfield 41, 3), (27, .ifCond .ne (29), 3), (30, .aload_n 0, 1), (31, .iconst (2), 1), (32, .putfield 66, 3), (35, .aload_n 0, 1), (36, .iload_n 1, 1), (37, .invokevirtual 132, 3), (40, .aload_n 0, 1), (41, .aload_n 0, 1), (42, .getfield 48, 3), (45, .iload_n 3, 1), (46, .i2l, 1), (47, .lsub, 1), (48, .putfield 48, 3), (51, .aload_n 0, 1), (52, .iload_n 2, 1), (53, .invokevirtual 89, 3), (56, .return_, 1)]
theorem dc_Mo_shift : ∀ q ∈ dl_Mo_shift, decode (zd_yb m_Mo_shift) q.1 = .ok q.2 := by decide +kernel
def cm_Mo_shift (l : Launch) (B : zd_B) : List (Nat × zm_S) := [(0, om_p (oc_aload 0 1)), (1, om_p (oc_iload 1 2)), (2, om_calls l B gM m_Mo_no 1 5), (5, om_p (oc_if_ne 15 8)), (8, om_p (oc_iload 2 9)), (9, om_calls l B gM m_Mo_no 1 12), (12, om_p (oc_if_eq 19 15)), (15, om_p (oc_ci (1) 16)), (16, om_p (oc_goto 20)), (19, om_p (oc_ci (0) 20)), (20, om_puti gM 0 23), (23, om_p (oc_aload 0 24)), (24, om_getf gM 0 27), (27, om_p (oc_if_ne 56 30)), (30, om_p (oc_aload 0 31)), (31, om_p (oc_ci (2) 32)), (32, om_puti gM 20 35), (35, om_p (oc_aload 0 36)), (36, om_p (oc_iload 1 37)), (37, om_callv l B gM m_Mo_load 1 40), (40, om_p (oc_aload 0 41)), (41, om_p (oc_aload 0 42)), (42, om_getf gM 9 45), (45, om_p (oc_iload 3 46)), (46, om_p (oc_i2l 47)), (47, om_p (oc_lsub 48)), (48, om_putl gM 9 51), (51, om_p (oc_aload 0 52)), (52, om_p (oc_iload 2 53)), (53, om_callv l B gM m_Mo_store 1 56), (56, om_vret)]
set_option maxRecDepth 20000 in
theorem okm_Mo_shift {l : Launch} {B : zd_B} (hG : zd_G B) (hl : l.stackTraces = false) : ∀ q ∈ cm_Mo_shift l B, zm_ok l B gM m_Mo_shift q.1 q.2 := by
  unfold cm_Mo_shift
  refine zm_ac (om_pk nt_aload (ok_aload_n (l := l) (B := B) (y := m_Mo_shift) (pc := 0) (k := 0) rfl (zd_dr dc_Mo_shift 0 rfl))) ?_
  refine zm_ac (om_pk nt_iload (ok_iload_n (l := l) (B := B) (y := m_Mo_shift) (pc := 1) (k := 1) rfl (zd_dr dc_Mo_shift 1 rfl))) ?_
  refine zm_ac (ok_mcalls (ok_calls (l := l) (B := B) (y := m_Mo_shift) (pc := 2) hG cf_Mo_shift_Mo_no rfl (List.mem_of_getElem? (i := 964) (by decide +kernel)) (List.mem_of_getElem? (i := 965) (by decide +kernel)) (List.mem_of_getElem? (i := 64) (by decide +kernel)) (zd_dr dc_Mo_shift 2 rfl))) ?_
  refine zm_ac (om_pk nt_if_ne (ok_if_ne (l := l) (B := B) (y := m_Mo_shift) (pc := 5) (zd_dr dc_Mo_shift 3 rfl) (by decide))) ?_
  refine zm_ac (om_pk nt_iload (ok_iload_n (l := l) (B := B) (y := m_Mo_shift) (pc := 8) (k := 2) rfl (zd_dr dc_Mo_shift 4 rfl))) ?_
  refine zm_ac (ok_mcalls (ok_calls (l := l) (B := B) (y := m_Mo_shift) (pc := 9) hG cf_Mo_shift_Mo_no rfl (List.mem_of_getElem? (i := 964) (by decide +kernel)) (List.mem_of_getElem? (i := 965) (by decide +kernel)) (List.mem_of_getElem? (i := 64) (by decide +kernel)) (zd_dr dc_Mo_shift 5 rfl))) ?_
  refine zm_ac (om_pk nt_if_eq (ok_if_eq (l := l) (B := B) (y := m_Mo_shift) (pc := 12) (zd_dr dc_Mo_shift 6 rfl) (by decide))) ?_
  refine zm_ac (om_pk nt_ci (ok_iconst (l := l) (B := B) (y := m_Mo_shift) (pc := 15) (n := (1)) (zd_dr dc_Mo_shift 7 rfl) rfl)) ?_
  refine zm_ac (om_pk nt_goto (ok_goto (l := l) (B := B) (y := m_Mo_shift) (pc := 16) (zd_dr dc_Mo_shift 8 rfl) (by decide))) ?_
  refine zm_ac (om_pk nt_ci (ok_iconst (l := l) (B := B) (y := m_Mo_shift) (pc := 19) (n := (0)) (zd_dr dc_Mo_shift 9 rfl) rfl)) ?_
  refine zm_ac (ok_mputi rfl (ok_putf (l := l) (B := B) (y := m_Mo_shift) (pc := 20) hG (C := zR8) (T := zT8) (N := 21) (ci := 8) (k := 0) rfl zl8 zt8 (by decide) (List.mem_of_getElem? (i := 882) (by decide +kernel)) rfl (zd_dr dc_Mo_shift 10 rfl))) ?_
  refine zm_ac (om_pk nt_aload (ok_aload_n (l := l) (B := B) (y := m_Mo_shift) (pc := 23) (k := 0) rfl (zd_dr dc_Mo_shift 11 rfl))) ?_
  refine zm_ac (ok_mgetf rfl (ok_getf (l := l) (B := B) (y := m_Mo_shift) (pc := 24) hG (C := zR8) (T := zT8) (N := 21) (ci := 8) (k := 0) rfl zl8 (by decide) (List.mem_of_getElem? (i := 882) (by decide +kernel)) (zd_dr dc_Mo_shift 12 rfl))) ?_
  refine zm_ac (om_pk nt_if_ne (ok_if_ne (l := l) (B := B) (y := m_Mo_shift) (pc := 27) (zd_dr dc_Mo_shift 13 rfl) (by decide))) ?_
  refine zm_ac (om_pk nt_aload (ok_aload_n (l := l) (B := B) (y := m_Mo_shift) (pc := 30) (k := 0) rfl (zd_dr dc_Mo_shift 14 rfl))) ?_
  refine zm_ac (om_pk nt_ci (ok_iconst (l := l) (B := B) (y := m_Mo_shift) (pc := 31) (n := (2)) (zd_dr dc_Mo_shift 15 rfl) rfl)) ?_
  refine zm_ac (ok_mputi rfl (ok_putf (l := l) (B := B) (y := m_Mo_shift) (pc := 32) hG (C := zR8) (T := zT8) (N := 21) (ci := 8) (k := 20) rfl zl8 zt8 (by decide) (List.mem_of_getElem? (i := 902) (by decide +kernel)) rfl (zd_dr dc_Mo_shift 16 rfl))) ?_
  refine zm_ac (om_pk nt_aload (ok_aload_n (l := l) (B := B) (y := m_Mo_shift) (pc := 35) (k := 0) rfl (zd_dr dc_Mo_shift 17 rfl))) ?_
  refine zm_ac (om_pk nt_iload (ok_iload_n (l := l) (B := B) (y := m_Mo_shift) (pc := 36) (k := 1) rfl (zd_dr dc_Mo_shift 18 rfl))) ?_
  refine zm_ac (ok_mcallv rfl (ok_callv (l := l) (B := B) (y := m_Mo_shift) (pc := 37) hG (ci := 8) rfl cf_Mo_shift_Mo_load rfl (List.mem_of_getElem? (i := 1019) (by decide +kernel)) (List.mem_of_getElem? (i := 1021) (by decide +kernel)) (List.mem_of_getElem? (i := 34) (by decide +kernel)) (zd_dr dc_Mo_shift 19 rfl))) ?_
  refine zm_ac (om_pk nt_aload (ok_aload_n (l := l) (B := B) (y := m_Mo_shift) (pc := 40) (k := 0) rfl (zd_dr dc_Mo_shift 20 rfl))) ?_
  refine zm_ac (om_pk nt_aload (ok_aload_n (l := l) (B := B) (y := m_Mo_shift) (pc := 41) (k := 0) rfl (zd_dr dc_Mo_shift 21 rfl))) ?_
  refine zm_ac (ok_mgetf rfl (ok_getf (l := l) (B := B) (y := m_Mo_shift) (pc := 42) hG (C := zR8) (T := zT8) (N := 21) (ci := 8) (k := 9) rfl zl8 (by decide) (List.mem_of_getElem? (i := 891) (by decide +kernel)) (zd_dr dc_Mo_shift 22 rfl))) ?_
  refine zm_ac (om_pk nt_iload (ok_iload_n (l := l) (B := B) (y := m_Mo_shift) (pc := 45) (k := 3) rfl (zd_dr dc_Mo_shift 23 rfl))) ?_
  refine zm_ac (om_pk nt_i2l (ok_i2l (l := l) (B := B) (y := m_Mo_shift) (pc := 46) (zd_dr dc_Mo_shift 24 rfl))) ?_
  refine zm_ac (om_pk nt_lsub (ok_lsub (l := l) (B := B) (y := m_Mo_shift) (pc := 47) (zd_dr dc_Mo_shift 25 rfl))) ?_
  refine zm_ac (ok_mputl rfl (ok_putf (l := l) (B := B) (y := m_Mo_shift) (pc := 48) hG (C := zR8) (T := zT8) (N := 21) (ci := 8) (k := 9) rfl zl8 zt8 (by decide) (List.mem_of_getElem? (i := 891) (by decide +kernel)) rfl (zd_dr dc_Mo_shift 26 rfl))) ?_
  refine zm_ac (om_pk nt_aload (ok_aload_n (l := l) (B := B) (y := m_Mo_shift) (pc := 51) (k := 0) rfl (zd_dr dc_Mo_shift 27 rfl))) ?_
  refine zm_ac (om_pk nt_iload (ok_iload_n (l := l) (B := B) (y := m_Mo_shift) (pc := 52) (k := 2) rfl (zd_dr dc_Mo_shift 28 rfl))) ?_
  refine zm_ac (ok_mcallv rfl (ok_callv (l := l) (B := B) (y := m_Mo_shift) (pc := 53) hG (ci := 8) rfl cf_Mo_shift_Mo_store rfl (List.mem_of_getElem? (i := 980) (by decide +kernel)) (List.mem_of_getElem? (i := 982) (by decide +kernel)) (List.mem_of_getElem? (i := 29) (by decide +kernel)) (zd_dr dc_Mo_shift 29 rfl))) ?_
  refine zm_ac (ok_mvret (ok_vret (l := l) (B := B) (y := m_Mo_shift) (pc := 56) rfl (zd_dr dc_Mo_shift 30 rfl))) ?_
  exact zm_an
def dl_Mo_negate : List (Nat × Instr × Nat) := [(0, .aload_n 0, 1), (1, .iload_n 1, 1), (2, .invokestatic 113, 3), (5, .ifCond .ne (10), 3), (8, .iload_n 2, 1), (9, .invokestatic 113, 3), (12, .ifCond .eq (7), 3), (15, .iconst (1), 1), (16, .goto (4), 3), (19, .iconst (0), 1), (20, .putfield 41, 3), (23, .aload_n 0, 1), (24, .getfield 41, 3), (27, .ifCond .ne (34), 3), (30, .aload_n 0, 1), (31, .iconst (2), 1), (32, .putfield 66, 3), (35, .aload_n 0, 1), (36, .iload_n 1, 1), (37, .invokevirtual 132, 3), (40, .aload_n 0, 1), (41, .aload_n 0, 1), (42, .getfield 56, 3), (45, .ifCond .ne (7), 3), (48, .iconst (1), 1), (49, .goto (4), 3), (52, .iconst (0), 1), (53, .putfield 56, 3), (56, .aload_n 0, 1), (57, .iload_n 2, 1), (58, .invokevirtual 89, 3), (61, .return_, 1)]
theorem dc_Mo_negate : ∀ q ∈ dl_Mo_negate, decode (zd_yb m_Mo_negate) q.1 = .ok q.2 := by decide +kernel
def cm_Mo_negate (l : Launch) (B : zd_B) : List (Nat × zm_S) := [(0, om_p (oc_aload 0 1)), (1, om_p (oc_iload 1 2)), (2, om_calls l B gM m_Mo_no 1 5), (5, om_p (oc_if_ne 15 8)), (8, om_p (oc_iload 2 9)), (9, om_calls l B gM m_Mo_no 1 12), (12, om_p (oc_if_eq 19 15)), (15, om_p (oc_ci (1) 16)), (16, om_p (oc_goto 20)), (19, om_p (oc_ci (0) 20)), (20, om_puti gM 0 23), (23, om_p (oc_aload 0 24)), (24, om_getf gM 0 27), (27, om_p (oc_if_ne 61 30)), (30, om_p (oc_aload 0 31)), (31, om_p (oc_ci (2) 32)), (32, om_puti gM 20 35), (35, om_p (oc_aload 0 36)), (36, om_p (oc_iload 1 37)), (37, om_callv l B gM m_Mo_load 1 40), (40, om_p (oc_aload 0 41)), (41, om_p (oc_aload 0 42)), (42, om_getf gM 11 45), (45, om_p (oc_if_ne 52 48)), (48, om_p (oc_ci (1) 49)), (49, om_p (oc_goto 53)), (52, om_p (oc_ci (0) 53)), (53, om_putb gM 11 56), (56, om_p (oc_aload 0 57)), (57, om_p (oc_iload 2 58)), (58, om_callv l B gM m_Mo_store 1 61), (61, om_vret)]
set_option maxRecDepth 20000 in
theorem okm_Mo_negate {l : Launch} {B : zd_B} (hG : zd_G B) (hl : l.stackTraces = false) : ∀ q ∈ cm_Mo_negate l B, zm_ok l B gM m_Mo_negate q.1 q.2 := by
  unfold cm_Mo_negate
  refine zm_ac (om_pk nt_aload (ok_aload_n (l := l) (B := B) (y := m_Mo_negate) (pc := 0) (k := 0) rfl (zd_dr dc_Mo_negate 0 rfl))) ?_
  refine zm_ac (om_pk nt_iload (ok_iload_n (l := l) (B := B) (y := m_Mo_negate) (pc := 1) (k := 1) rfl (zd_dr dc_Mo_negate 1 rfl))) ?_
  refine zm_ac (ok_mcalls (ok_calls (l := l) (B := B) (y := m_Mo_negate) (pc := 2) hG cf_Mo_negate_Mo_no rfl (List.mem_of_getElem? (i := 964) (by decide +kernel)) (List.mem_of_getElem? (i := 965) (by decide +kernel)) (List.mem_of_getElem? (i := 64) (by decide +kernel)) (zd_dr dc_Mo_negate 2 rfl))) ?_
  refine zm_ac (om_pk nt_if_ne (ok_if_ne (l := l) (B := B) (y := m_Mo_negate) (pc := 5) (zd_dr dc_Mo_negate 3 rfl) (by decide))) ?_
  refine zm_ac (om_pk nt_iload (ok_iload_n (l := l) (B := B) (y := m_Mo_negate) (pc := 8) (k := 2) rfl (zd_dr dc_Mo_negate 4 rfl))) ?_
  refine zm_ac (ok_mcalls (ok_calls (l := l) (B := B) (y := m_Mo_negate) (pc := 9) hG cf_Mo_negate_Mo_no rfl (List.mem_of_getElem? (i := 964) (by decide +kernel)) (List.mem_of_getElem? (i := 965) (by decide +kernel)) (List.mem_of_getElem? (i := 64) (by decide +kernel)) (zd_dr dc_Mo_negate 5 rfl))) ?_
  refine zm_ac (om_pk nt_if_eq (ok_if_eq (l := l) (B := B) (y := m_Mo_negate) (pc := 12) (zd_dr dc_Mo_negate 6 rfl) (by decide))) ?_
  refine zm_ac (om_pk nt_ci (ok_iconst (l := l) (B := B) (y := m_Mo_negate) (pc := 15) (n := (1)) (zd_dr dc_Mo_negate 7 rfl) rfl)) ?_
  refine zm_ac (om_pk nt_goto (ok_goto (l := l) (B := B) (y := m_Mo_negate) (pc := 16) (zd_dr dc_Mo_negate 8 rfl) (by decide))) ?_
  refine zm_ac (om_pk nt_ci (ok_iconst (l := l) (B := B) (y := m_Mo_negate) (pc := 19) (n := (0)) (zd_dr dc_Mo_negate 9 rfl) rfl)) ?_
  refine zm_ac (ok_mputi rfl (ok_putf (l := l) (B := B) (y := m_Mo_negate) (pc := 20) hG (C := zR8) (T := zT8) (N := 21) (ci := 8) (k := 0) rfl zl8 zt8 (by decide) (List.mem_of_getElem? (i := 882) (by decide +kernel)) rfl (zd_dr dc_Mo_negate 10 rfl))) ?_
  refine zm_ac (om_pk nt_aload (ok_aload_n (l := l) (B := B) (y := m_Mo_negate) (pc := 23) (k := 0) rfl (zd_dr dc_Mo_negate 11 rfl))) ?_
  refine zm_ac (ok_mgetf rfl (ok_getf (l := l) (B := B) (y := m_Mo_negate) (pc := 24) hG (C := zR8) (T := zT8) (N := 21) (ci := 8) (k := 0) rfl zl8 (by decide) (List.mem_of_getElem? (i := 882) (by decide +kernel)) (zd_dr dc_Mo_negate 12 rfl))) ?_
  refine zm_ac (om_pk nt_if_ne (ok_if_ne (l := l) (B := B) (y := m_Mo_negate) (pc := 27) (zd_dr dc_Mo_negate 13 rfl) (by decide))) ?_
  refine zm_ac (om_pk nt_aload (ok_aload_n (l := l) (B := B) (y := m_Mo_negate) (pc := 30) (k := 0) rfl (zd_dr dc_Mo_negate 14 rfl))) ?_
  refine zm_ac (om_pk nt_ci (ok_iconst (l := l) (B := B) (y := m_Mo_negate) (pc := 31) (n := (2)) (zd_dr dc_Mo_negate 15 rfl) rfl)) ?_
  refine zm_ac (ok_mputi rfl (ok_putf (l := l) (B := B) (y := m_Mo_negate) (pc := 32) hG (C := zR8) (T := zT8) (N := 21) (ci := 8) (k := 20) rfl zl8 zt8 (by decide) (List.mem_of_getElem? (i := 902) (by decide +kernel)) rfl (zd_dr dc_Mo_negate 16 rfl))) ?_
  refine zm_ac (om_pk nt_aload (ok_aload_n (l := l) (B := B) (y := m_Mo_negate) (pc := 35) (k := 0) rfl (zd_dr dc_Mo_negate 17 rfl))) ?_
  refine zm_ac (om_pk nt_iload (ok_iload_n (l := l) (B := B) (y := m_Mo_negate) (pc := 36) (k := 1) rfl (zd_dr dc_Mo_negate 18 rfl))) ?_
  refine zm_ac (ok_mcallv rfl (ok_callv (l := l) (B := B) (y := m_Mo_negate) (pc := 37) hG (ci := 8) rfl cf_Mo_negate_Mo_load rfl (List.mem_of_getElem? (i := 1019) (by decide +kernel)) (List.mem_of_getElem? (i := 1021) (by decide +kernel)) (List.mem_of_getElem? (i := 34) (by decide +kernel)) (zd_dr dc_Mo_negate 19 rfl))) ?_
  refine zm_ac (om_pk nt_aload (ok_aload_n (l := l) (B := B) (y := m_Mo_negate) (pc := 40) (k := 0) rfl (zd_dr dc_Mo_negate 20 rfl))) ?_
  refine zm_ac (om_pk nt_aload (ok_aload_n (l := l) (B := B) (y := m_Mo_negate) (pc := 41) (k := 0) rfl (zd_dr dc_Mo_negate 21 rfl))) ?_
  refine zm_ac (ok_mgetf rfl (ok_getf (l := l) (B := B) (y := m_Mo_negate) (pc := 42) hG (C := zR8) (T := zT8) (N := 21) (ci := 8) (k := 11) rfl zl8 (by decide) (List.mem_of_getElem? (i := 893) (by decide +kernel)) (zd_dr dc_Mo_negate 22 rfl))) ?_
  refine zm_ac (om_pk nt_if_ne (ok_if_ne (l := l) (B := B) (y := m_Mo_negate) (pc := 45) (zd_dr dc_Mo_negate 23 rfl) (by decide))) ?_
  refine zm_ac (om_pk nt_ci (ok_iconst (l := l) (B := B) (y := m_Mo_negate) (pc := 48) (n := (1)) (zd_dr dc_Mo_negate 24 rfl) rfl)) ?_
  refine zm_ac (om_pk nt_goto (ok_goto (l := l) (B := B) (y := m_Mo_negate) (pc := 49) (zd_dr dc_Mo_negate 25 rfl) (by decide))) ?_
  refine zm_ac (om_pk nt_ci (ok_iconst (l := l) (B := B) (y := m_Mo_negate) (pc := 52) (n := (0)) (zd_dr dc_Mo_negate 26 rfl) rfl)) ?_
  refine zm_ac (ok_mputb rfl (ok_putf (l := l) (B := B) (y := m_Mo_negate) (pc := 53) hG (C := zR8) (T := zT8) (N := 21) (ci := 8) (k := 11) rfl zl8 zt8 (by decide) (List.mem_of_getElem? (i := 893) (by decide +kernel)) rfl (zd_dr dc_Mo_negate 27 rfl))) ?_
  refine zm_ac (om_pk nt_aload (ok_aload_n (l := l) (B := B) (y := m_Mo_negate) (pc := 56) (k := 0) rfl (zd_dr dc_Mo_negate 28 rfl))) ?_
  refine zm_ac (om_pk nt_iload (ok_iload_n (l := l) (B := B) (y := m_Mo_negate) (pc := 57) (k := 2) rfl (zd_dr dc_Mo_negate 29 rfl))) ?_
  refine zm_ac (ok_mcallv rfl (ok_callv (l := l) (B := B) (y := m_Mo_negate) (pc := 58) hG (ci := 8) rfl cf_Mo_negate_Mo_store rfl (List.mem_of_getElem? (i := 980) (by decide +kernel)) (List.mem_of_getElem? (i := 982) (by decide +kernel)) (List.mem_of_getElem? (i := 29) (by decide +kernel)) (zd_dr dc_Mo_negate 30 rfl))) ?_
  refine zm_ac (ok_mvret (ok_vret (l := l) (B := B) (y := m_Mo_negate) (pc := 61) rfl (zd_dr dc_Mo_negate 31 rfl))) ?_
  exact zm_an
def dl_Mo_told : List (Nat × Instr × Nat) := [(0, .aload_n 0, 1), (1, .iload_n 1, 1), (2, .invokestatic 113, 3), (5, .ifCond .eq (7), 3), (8, .iconst (1), 1), (9, .goto (24), 3), (12, .iload_n 2, 1), (13, .ifCond .lt (15), 3), (16, .iload_n 2, 1), (17, .iconst (3), 1), (18, .isub, 1), (19, .aload_n 0, 1), (20, .getfield 16, 3), (23, .iload_n 1, 1), (24, .iaload, 1), (25, .if_icmp .lt (7), 3), (28, .iconst (2), 1), (29, .goto (4), 3), (32, .iconst (0), 1), (33, .putfield 41, 3), (36, .aload_n 0, 1), (37, .getfield 41, 3), (40, .ifCond .le (5), 3), (43, .iconst (0), 1), (44, .ireturn, 1), (45, .iload_n 2, 1), (46, .ifCond .ne (32), 3), (49, .aload_n 0, 1), (50, .iload_n 1, 1), (51, .invokevirtual 120, 3), (54, .ifCond .eq (7), 3), (57, .iconst (0), 1), (58, .goto (62), 3), (61, .aload_n 0, 1), (62, .getfield 19, 3), (65, .iload_n 1, 1), (66, .baload, 1), (67, .ifCond .eq (7), 3), (70, .iconst (-1), 1), (71, .goto (49), 3), (74, .iconst (1), 1), (75, .goto (45), 3), (78, .iload_n 2, 1), (79, .iconst (1), 1), (80, .if_icmp .ne (12), 3), (83, .aload_n 0, 1), (84, .getfield 23, 3), (87, .iload_n 1, 1), (88, .iaload, 1), (89, .goto (31), 3), (92, .iload_n 2, 1), (93, .iconst (2), 1), (94, .if_icmp .ne (12), 3), (97, .aload_n 0, 1), (98, .getfield 16, 3), (101, .iload_n 1, 1), (102, .iaload, 1), (103, .goto (17), 3), (106, .aload_n 0, 1), (107, .getfield 13, 3), (110, .sipush (1000), 3), (113, .iload_n 1, 1), (114, .imul, 1), (115, .iload_n 2, 1), (116, .iadd, 1), (117, .iconst (3), 1), (118, .isub, 1), (119, .iaload, 1), (120, .ireturn, 1)]
theorem dc_Mo_told : ∀ q ∈ dl_Mo_told, decode (zd_yb m_Mo_told) q.1 = .ok q.2 := by decide +kernel
def cm_Mo_told (l : Launch) (B : zd_B) : List (Nat × zm_S) := [(0, om_p (oc_aload 0 1)), (1, om_p (oc_iload 1 2)), (2, om_calls l B gM m_Mo_no 1 5), (5, om_p (oc_if_eq 12 8)), (8, om_p (oc_ci (1) 9)), (9, om_p (oc_goto 33)), (12, om_p (oc_iload 2 13)), (13, om_p (oc_if_lt 28 16)), (16, om_p (oc_iload 2 17)), (17, om_p (oc_ci (3) 18)), (18, om_p (oc_isub 19)), (19, om_p (oc_aload 0 20)), (20, om_getf gM 4 23), (23, om_p (oc_iload 1 24)), (24, om_ald gM 0 25), (25, om_p (oc_icmp_lt 32 28)), (28, om_p (oc_ci (2) 29)), (29, om_p (oc_goto 33)), (32, om_p (oc_ci (0) 33)), (33, om_puti gM 0 36), (36, om_p (oc_aload 0 37)), (37, om_getf gM 0 40), (40, om_p (oc_if_le 45 43)), (43, om_p (oc_ci (0) 44)), (44, om_iret), (45, om_p (oc_iload 2 46)), (46, om_p (oc_if_ne 78 49)), (49, om_p (oc_aload 0 50)), (50, om_p (oc_iload 1 51)), (51, om_callv l B gM m_Mo_isZero 1 54), (54, om_p (oc_if_eq 61 57)), (57, om_p (oc_ci (0) 58)), (58, om_p (oc_goto 120)), (61, om_p (oc_aload 0 62)), (62, om_getf gM 5 65), (65, om_p (oc_iload 1 66)), (66, om_ald gM 2 67), (67, om_p (oc_if_eq 74 70)), (70, om_p (oc_ci (-1) 71)), (71, om_p (oc_goto 120)), (74, om_p (oc_ci (1) 75)), (75, om_p (oc_goto 120)), (78, om_p (oc_iload 2 79)), (79, om_p (oc_ci (1) 80)), (80, om_p (oc_icmp_ne 92 83)), (83, om_p (oc_aload 0 84)), (84, om_getf gM 6 87), (87, om_p (oc_iload 1 88)), (88, om_ald gM 0 89), (89, om_p (oc_goto 120)), (92, om_p (oc_iload 2 93)), (93, om_p (oc_ci (2) 94)), (94, om_p (oc_icmp_ne 106 97)), (97, om_p (oc_aload 0 98)), (98, om_getf gM 4 101), (101, om_p (oc_iload 1 102)), (102, om_ald gM 0 103), (103, om_p (oc_goto 120)), (106, om_p (oc_aload 0 107)), (107, om_getf gM 3 110), (110, om_p (oc_ci (1000) 113)), (113, om_p (oc_iload 1 114)), (114, om_p (oc_imul 115)), (115, om_p (oc_iload 2 116)), (116, om_p (oc_iadd 117)), (117, om_p (oc_ci (3) 118)), (118, om_p (oc_isub 119)), (119, om_ald gM 0 120), (120, om_iret)]
set_option maxRecDepth 20000 in
theorem okm_Mo_told {l : Launch} {B : zd_B} (hG : zd_G B) (hl : l.stackTraces = false) : ∀ q ∈ cm_Mo_told l B, zm_ok l B gM m_Mo_told q.1 q.2 := by
  unfold cm_Mo_told
  refine zm_ac (om_pk nt_aload (ok_aload_n (l := l) (B := B) (y := m_Mo_told) (pc := 0) (k := 0) rfl (zd_dr dc_Mo_told 0 rfl))) ?_
  refine zm_ac (om_pk nt_iload (ok_iload_n (l := l) (B := B) (y := m_Mo_told) (pc := 1) (k := 1) rfl (zd_dr dc_Mo_told 1 rfl))) ?_
  refine zm_ac (ok_mcalls (ok_calls (l := l) (B := B) (y := m_Mo_told) (pc := 2) hG cf_Mo_told_Mo_no rfl (List.mem_of_getElem? (i := 964) (by decide +kernel)) (List.mem_of_getElem? (i := 965) (by decide +kernel)) (List.mem_of_getElem? (i := 64) (by decide +kernel)) (zd_dr dc_Mo_told 2 rfl))) ?_
  refine zm_ac (om_pk nt_if_eq (ok_if_eq (l := l) (B := B) (y := m_Mo_told) (pc := 5) (zd_dr dc_Mo_told 3 rfl) (by decide))) ?_
  refine zm_ac (om_pk nt_ci (ok_iconst (l := l) (B := B) (y := m_Mo_told) (pc := 8) (n := (1)) (zd_dr dc_Mo_told 4 rfl) rfl)) ?_
  refine zm_ac (om_pk nt_goto (ok_goto (l := l) (B := B) (y := m_Mo_told) (pc := 9) (zd_dr dc_Mo_told 5 rfl) (by decide))) ?_
  refine zm_ac (om_pk nt_iload (ok_iload_n (l := l) (B := B) (y := m_Mo_told) (pc := 12) (k := 2) rfl (zd_dr dc_Mo_told 6 rfl))) ?_
  refine zm_ac (om_pk nt_if_lt (ok_if_lt (l := l) (B := B) (y := m_Mo_told) (pc := 13) (zd_dr dc_Mo_told 7 rfl) (by decide))) ?_
  refine zm_ac (om_pk nt_iload (ok_iload_n (l := l) (B := B) (y := m_Mo_told) (pc := 16) (k := 2) rfl (zd_dr dc_Mo_told 8 rfl))) ?_
  refine zm_ac (om_pk nt_ci (ok_iconst (l := l) (B := B) (y := m_Mo_told) (pc := 17) (n := (3)) (zd_dr dc_Mo_told 9 rfl) rfl)) ?_
  refine zm_ac (om_pk nt_isub (ok_isub (l := l) (B := B) (y := m_Mo_told) (pc := 18) (zd_dr dc_Mo_told 10 rfl))) ?_
  refine zm_ac (om_pk nt_aload (ok_aload_n (l := l) (B := B) (y := m_Mo_told) (pc := 19) (k := 0) rfl (zd_dr dc_Mo_told 11 rfl))) ?_
  refine zm_ac (ok_mgetf rfl (ok_getf (l := l) (B := B) (y := m_Mo_told) (pc := 20) hG (C := zR8) (T := zT8) (N := 21) (ci := 8) (k := 4) rfl zl8 (by decide) (List.mem_of_getElem? (i := 886) (by decide +kernel)) (zd_dr dc_Mo_told 12 rfl))) ?_
  refine zm_ac (om_pk nt_iload (ok_iload_n (l := l) (B := B) (y := m_Mo_told) (pc := 23) (k := 1) rfl (zd_dr dc_Mo_told 13 rfl))) ?_
  refine zm_ac (ok_miaload (ok_iaload (l := l) (B := B) (y := m_Mo_told) (pc := 24) hG (zd_dr dc_Mo_told 14 rfl))) ?_
  refine zm_ac (om_pk nt_icmp_lt (ok_icmp_lt (l := l) (B := B) (y := m_Mo_told) (pc := 25) (zd_dr dc_Mo_told 15 rfl) (by decide))) ?_
  refine zm_ac (om_pk nt_ci (ok_iconst (l := l) (B := B) (y := m_Mo_told) (pc := 28) (n := (2)) (zd_dr dc_Mo_told 16 rfl) rfl)) ?_
  refine zm_ac (om_pk nt_goto (ok_goto (l := l) (B := B) (y := m_Mo_told) (pc := 29) (zd_dr dc_Mo_told 17 rfl) (by decide))) ?_
  refine zm_ac (om_pk nt_ci (ok_iconst (l := l) (B := B) (y := m_Mo_told) (pc := 32) (n := (0)) (zd_dr dc_Mo_told 18 rfl) rfl)) ?_
  refine zm_ac (ok_mputi rfl (ok_putf (l := l) (B := B) (y := m_Mo_told) (pc := 33) hG (C := zR8) (T := zT8) (N := 21) (ci := 8) (k := 0) rfl zl8 zt8 (by decide) (List.mem_of_getElem? (i := 882) (by decide +kernel)) rfl (zd_dr dc_Mo_told 19 rfl))) ?_
  refine zm_ac (om_pk nt_aload (ok_aload_n (l := l) (B := B) (y := m_Mo_told) (pc := 36) (k := 0) rfl (zd_dr dc_Mo_told 20 rfl))) ?_
  refine zm_ac (ok_mgetf rfl (ok_getf (l := l) (B := B) (y := m_Mo_told) (pc := 37) hG (C := zR8) (T := zT8) (N := 21) (ci := 8) (k := 0) rfl zl8 (by decide) (List.mem_of_getElem? (i := 882) (by decide +kernel)) (zd_dr dc_Mo_told 21 rfl))) ?_
  refine zm_ac (om_pk nt_if_le (ok_if_le (l := l) (B := B) (y := m_Mo_told) (pc := 40) (zd_dr dc_Mo_told 22 rfl) (by decide))) ?_
  refine zm_ac (om_pk nt_ci (ok_iconst (l := l) (B := B) (y := m_Mo_told) (pc := 43) (n := (0)) (zd_dr dc_Mo_told 23 rfl) rfl)) ?_
  refine zm_ac (ok_miret (ok_iret (l := l) (B := B) (y := m_Mo_told) (pc := 44) rfl (zd_dr dc_Mo_told 24 rfl))) ?_
  refine zm_ac (om_pk nt_iload (ok_iload_n (l := l) (B := B) (y := m_Mo_told) (pc := 45) (k := 2) rfl (zd_dr dc_Mo_told 25 rfl))) ?_
  refine zm_ac (om_pk nt_if_ne (ok_if_ne (l := l) (B := B) (y := m_Mo_told) (pc := 46) (zd_dr dc_Mo_told 26 rfl) (by decide))) ?_
  refine zm_ac (om_pk nt_aload (ok_aload_n (l := l) (B := B) (y := m_Mo_told) (pc := 49) (k := 0) rfl (zd_dr dc_Mo_told 27 rfl))) ?_
  refine zm_ac (om_pk nt_iload (ok_iload_n (l := l) (B := B) (y := m_Mo_told) (pc := 50) (k := 1) rfl (zd_dr dc_Mo_told 28 rfl))) ?_
  refine zm_ac (ok_mcallv rfl (ok_callv (l := l) (B := B) (y := m_Mo_told) (pc := 51) hG (ci := 8) rfl cf_Mo_told_Mo_isZero rfl (List.mem_of_getElem? (i := 998) (by decide +kernel)) (List.mem_of_getElem? (i := 1000) (by decide +kernel)) (List.mem_of_getElem? (i := 31) (by decide +kernel)) (zd_dr dc_Mo_told 29 rfl))) ?_
  refine zm_ac (om_pk nt_if_eq (ok_if_eq (l := l) (B := B) (y := m_Mo_told) (pc := 54) (zd_dr dc_Mo_told 30 rfl) (by decide))) ?_
  refine zm_ac (om_pk nt_ci (ok_iconst (l := l) (B := B) (y := m_Mo_told) (pc := 57) (n := (0)) (zd_dr dc_Mo_told 31 rfl) rfl)) ?_
  refine zm_ac (om_pk nt_goto (ok_goto (l := l) (B := B) (y := m_Mo_told) (pc := 58) (zd_dr dc_Mo_told 32 rfl) (by decide))) ?_
  refine zm_ac (om_pk nt_aload (ok_aload_n (l := l) (B := B) (y := m_Mo_told) (pc := 61) (k := 0) rfl (zd_dr dc_Mo_told 33 rfl))) ?_
  refine zm_ac (ok_mgetf rfl (ok_getf (l := l) (B := B) (y := m_Mo_told) (pc := 62) hG (C := zR8) (T := zT8) (N := 21) (ci := 8) (k := 5) rfl zl8 (by decide) (List.mem_of_getElem? (i := 887) (by decide +kernel)) (zd_dr dc_Mo_told 34 rfl))) ?_
  refine zm_ac (om_pk nt_iload (ok_iload_n (l := l) (B := B) (y := m_Mo_told) (pc := 65) (k := 1) rfl (zd_dr dc_Mo_told 35 rfl))) ?_
  refine zm_ac (ok_mbaload (ok_baload (l := l) (B := B) (y := m_Mo_told) (pc := 66) hG (zd_dr dc_Mo_told 36 rfl))) ?_
  refine zm_ac (om_pk nt_if_eq (ok_if_eq (l := l) (B := B) (y := m_Mo_told) (pc := 67) (zd_dr dc_Mo_told 37 rfl) (by decide))) ?_
  refine zm_ac (om_pk nt_ci (ok_iconst (l := l) (B := B) (y := m_Mo_told) (pc := 70) (n := (-1)) (zd_dr dc_Mo_told 38 rfl) rfl)) ?_
  refine zm_ac (om_pk nt_goto (ok_goto (l := l) (B := B) (y := m_Mo_told) (pc := 71) (zd_dr dc_Mo_told 39 rfl) (by decide))) ?_
  refine zm_ac (om_pk nt_ci (ok_iconst (l := l) (B := B) (y := m_Mo_told) (pc := 74) (n := (1)) (zd_dr dc_Mo_told 40 rfl) rfl)) ?_
  refine zm_ac (om_pk nt_goto (ok_goto (l := l) (B := B) (y := m_Mo_told) (pc := 75) (zd_dr dc_Mo_told 41 rfl) (by decide))) ?_
  refine zm_ac (om_pk nt_iload (ok_iload_n (l := l) (B := B) (y := m_Mo_told) (pc := 78) (k := 2) rfl (zd_dr dc_Mo_told 42 rfl))) ?_
  refine zm_ac (om_pk nt_ci (ok_iconst (l := l) (B := B) (y := m_Mo_told) (pc := 79) (n := (1)) (zd_dr dc_Mo_told 43 rfl) rfl)) ?_
  refine zm_ac (om_pk nt_icmp_ne (ok_icmp_ne (l := l) (B := B) (y := m_Mo_told) (pc := 80) (zd_dr dc_Mo_told 44 rfl) (by decide))) ?_
  refine zm_ac (om_pk nt_aload (ok_aload_n (l := l) (B := B) (y := m_Mo_told) (pc := 83) (k := 0) rfl (zd_dr dc_Mo_told 45 rfl))) ?_
  refine zm_ac (ok_mgetf rfl (ok_getf (l := l) (B := B) (y := m_Mo_told) (pc := 84) hG (C := zR8) (T := zT8) (N := 21) (ci := 8) (k := 6) rfl zl8 (by decide) (List.mem_of_getElem? (i := 888) (by decide +kernel)) (zd_dr dc_Mo_told 46 rfl))) ?_
  refine zm_ac (om_pk nt_iload (ok_iload_n (l := l) (B := B) (y := m_Mo_told) (pc := 87) (k := 1) rfl (zd_dr dc_Mo_told 47 rfl))) ?_
  refine zm_ac (ok_miaload (ok_iaload (l := l) (B := B) (y := m_Mo_told) (pc := 88) hG (zd_dr dc_Mo_told 48 rfl))) ?_
  refine zm_ac (om_pk nt_goto (ok_goto (l := l) (B := B) (y := m_Mo_told) (pc := 89) (zd_dr dc_Mo_told 49 rfl) (by decide))) ?_
  refine zm_ac (om_pk nt_iload (ok_iload_n (l := l) (B := B) (y := m_Mo_told) (pc := 92) (k := 2) rfl (zd_dr dc_Mo_told 50 rfl))) ?_
  refine zm_ac (om_pk nt_ci (ok_iconst (l := l) (B := B) (y := m_Mo_told) (pc := 93) (n := (2)) (zd_dr dc_Mo_told 51 rfl) rfl)) ?_
  refine zm_ac (om_pk nt_icmp_ne (ok_icmp_ne (l := l) (B := B) (y := m_Mo_told) (pc := 94) (zd_dr dc_Mo_told 52 rfl) (by decide))) ?_
  refine zm_ac (om_pk nt_aload (ok_aload_n (l := l) (B := B) (y := m_Mo_told) (pc := 97) (k := 0) rfl (zd_dr dc_Mo_told 53 rfl))) ?_
  refine zm_ac (ok_mgetf rfl (ok_getf (l := l) (B := B) (y := m_Mo_told) (pc := 98) hG (C := zR8) (T := zT8) (N := 21) (ci := 8) (k := 4) rfl zl8 (by decide) (List.mem_of_getElem? (i := 886) (by decide +kernel)) (zd_dr dc_Mo_told 54 rfl))) ?_
  refine zm_ac (om_pk nt_iload (ok_iload_n (l := l) (B := B) (y := m_Mo_told) (pc := 101) (k := 1) rfl (zd_dr dc_Mo_told 55 rfl))) ?_
  refine zm_ac (ok_miaload (ok_iaload (l := l) (B := B) (y := m_Mo_told) (pc := 102) hG (zd_dr dc_Mo_told 56 rfl))) ?_
  refine zm_ac (om_pk nt_goto (ok_goto (l := l) (B := B) (y := m_Mo_told) (pc := 103) (zd_dr dc_Mo_told 57 rfl) (by decide))) ?_
  refine zm_ac (om_pk nt_aload (ok_aload_n (l := l) (B := B) (y := m_Mo_told) (pc := 106) (k := 0) rfl (zd_dr dc_Mo_told 58 rfl))) ?_
  refine zm_ac (ok_mgetf rfl (ok_getf (l := l) (B := B) (y := m_Mo_told) (pc := 107) hG (C := zR8) (T := zT8) (N := 21) (ci := 8) (k := 3) rfl zl8 (by decide) (List.mem_of_getElem? (i := 885) (by decide +kernel)) (zd_dr dc_Mo_told 59 rfl))) ?_
  refine zm_ac (om_pk nt_ci (ok_sipush (l := l) (B := B) (y := m_Mo_told) (pc := 110) (n := (1000)) (zd_dr dc_Mo_told 60 rfl) rfl)) ?_
  refine zm_ac (om_pk nt_iload (ok_iload_n (l := l) (B := B) (y := m_Mo_told) (pc := 113) (k := 1) rfl (zd_dr dc_Mo_told 61 rfl))) ?_
  refine zm_ac (om_pk nt_imul (ok_imul (l := l) (B := B) (y := m_Mo_told) (pc := 114) (zd_dr dc_Mo_told 62 rfl))) ?_
  refine zm_ac (om_pk nt_iload (ok_iload_n (l := l) (B := B) (y := m_Mo_told) (pc := 115) (k := 2) rfl (zd_dr dc_Mo_told 63 rfl))) ?_
  refine zm_ac (om_pk nt_iadd (ok_iadd (l := l) (B := B) (y := m_Mo_told) (pc := 116) (zd_dr dc_Mo_told 64 rfl))) ?_
  refine zm_ac (om_pk nt_ci (ok_iconst (l := l) (B := B) (y := m_Mo_told) (pc := 117) (n := (3)) (zd_dr dc_Mo_told 65 rfl) rfl)) ?_
  refine zm_ac (om_pk nt_isub (ok_isub (l := l) (B := B) (y := m_Mo_told) (pc := 118) (zd_dr dc_Mo_told 66 rfl))) ?_
  refine zm_ac (ok_miaload (ok_iaload (l := l) (B := B) (y := m_Mo_told) (pc := 119) hG (zd_dr dc_Mo_told 67 rfl))) ?_
  refine zm_ac (ok_miret (ok_iret (l := l) (B := B) (y := m_Mo_told) (pc := 120) rfl (zd_dr dc_Mo_told 68 rfl))) ?_
  exact zm_an
def dl_Mo_print : List (Nat × Instr × Nat) := [(0, .aload_n 0, 1), (1, .getfield 38, 3), (4, .aload_n 0, 1), (5, .getfield 186, 3), (8, .iload_n 1, 1), (9, .iastore, 1), (10, .aload_n 0, 1), (11, .dup, 1), (12, .getfield 186, 3), (15, .iconst (1), 1), (16, .iadd, 1), (17, .putfield 186, 3), (20, .return_, 1)]
theorem dc_Mo_print : ∀ q ∈ dl_Mo_print, decode (zd_yb m_Mo_print) q.1 = .ok q.2 := by decide +kernel
def cm_Mo_print (l : Launch) (B : zd_B) : List (Nat × zm_S) := [(0, om_p (oc_aload 0 1)), (1, om_getf gM 18 4), (4, om_p (oc_aload 0 5)), (5, om_getf gM 19 8), (8, om_p (oc_iload 1 9)), (9, om_ast gM 0 cs_i 10), (10, om_p (oc_aload 0 11)), (11, om_p (oc_dup 12)), (12, om_getf gM 19 15), (15, om_p (oc_ci (1) 16)), (16, om_p (oc_iadd 17)), (17, om_puti gM 19 20), (20, om_vret)]
set_option maxRecDepth 20000 in
theorem okm_Mo_print {l : Launch} {B : zd_B} (hG : zd_G B) (hl : l.stackTraces = false) : ∀ q ∈ cm_Mo_print l B, zm_ok l B gM m_Mo_print q.1 q.2 := by
  unfold cm_Mo_print
  refine zm_ac (om_pk nt_aload (ok_aload_n (l := l) (B := B) (y := m_Mo_print) (pc := 0) (k := 0) rfl (zd_dr dc_Mo_print 0 rfl))) ?_
  refine zm_ac (ok_mgetf rfl (ok_getf (l := l) (B := B) (y := m_Mo_print) (pc := 1) hG (C := zR8) (T := zT8) (N := 21) (ci := 8) (k := 18) rfl zl8 (by decide) (List.mem_of_getElem? (i := 900) (by decide +kernel)) (zd_dr dc_Mo_print 1 rfl))) ?_
  refine zm_ac (om_pk nt_aload (ok_aload_n (l := l) (B := B) (y := m_Mo_print) (pc := 4) (k := 0) rfl (zd_dr dc_Mo_print 2 rfl))) ?_
  refine zm_ac (ok_mgetf rfl (ok_getf (l := l) (B := B) (y := m_Mo_print) (pc := 5) hG (C := zR8) (T := zT8) (N := 21) (ci := 8) (k := 19) rfl zl8 (by decide) (List.mem_of_getElem? (i := 901) (by decide +kernel)) (zd_dr dc_Mo_print 3 rfl))) ?_
  refine zm_ac (om_pk nt_iload (ok_iload_n (l := l) (B := B) (y := m_Mo_print) (pc := 8) (k := 1) rfl (zd_dr dc_Mo_print 4 rfl))) ?_
  refine zm_ac (ok_miastore (ok_iastore (l := l) (B := B) (y := m_Mo_print) (pc := 9) hG (zd_dr dc_Mo_print 5 rfl))) ?_
  refine zm_ac (om_pk nt_aload (ok_aload_n (l := l) (B := B) (y := m_Mo_print) (pc := 10) (k := 0) rfl (zd_dr dc_Mo_print 6 rfl))) ?_
  refine zm_ac (om_pk nt_dup (ok_dup (l := l) (B := B) (y := m_Mo_print) (pc := 11) (zd_dr dc_Mo_print 7 rfl))) ?_
  refine zm_ac (ok_mgetf rfl (ok_getf (l := l) (B := B) (y := m_Mo_print) (pc := 12) hG (C := zR8) (T := zT8) (N := 21) (ci := 8) (k := 19) rfl zl8 (by decide) (List.mem_of_getElem? (i := 901) (by decide +kernel)) (zd_dr dc_Mo_print 8 rfl))) ?_
  refine zm_ac (om_pk nt_ci (ok_iconst (l := l) (B := B) (y := m_Mo_print) (pc := 15) (n := (1)) (zd_dr dc_Mo_print 9 rfl) rfl)) ?_
  refine zm_ac (om_pk nt_iadd (ok_iadd (l := l) (B := B) (y := m_Mo_print) (pc := 16) (zd_dr dc_Mo_print 10 rfl))) ?_
  refine zm_ac (ok_mputi rfl (ok_putf (l := l) (B := B) (y := m_Mo_print) (pc := 17) hG (C := zR8) (T := zT8) (N := 21) (ci := 8) (k := 19) rfl zl8 zt8 (by decide) (List.mem_of_getElem? (i := 901) (by decide +kernel)) rfl (zd_dr dc_Mo_print 11 rfl))) ?_
  refine zm_ac (ok_mvret (ok_vret (l := l) (B := B) (y := m_Mo_print) (pc := 20) rfl (zd_dr dc_Mo_print 12 rfl))) ?_
  exact zm_an
def dl_Mo_figures : List (Nat × Instr × Nat) := [(0, .iload_n 2, 1), (1, .istore 5, 2), (3, .iload 5, 2), (5, .iload_n 3, 1), (6, .if_icmp .ge (62), 3), (9, .iload 5, 2), (11, .iload 4, 2), (13, .if_icmp .ne (9), 3), (16, .aload_n 0, 1), (17, .bipush (46), 2), (19, .invokevirtual 189, 3), (22, .aload_n 0, 1), (23, .bipush (48), 2), (25, .iload 5, 2), (27, .ifCond .lt (30), 3), (30, .iload 5, 2), (32, .aload_n 0, 1), (33, .getfield 16, 3), (36, .iload_n 1, 1), (37, .iaload, 1), (38, .if_icmp .ge (19), 3), (41, .aload_n 0, 1), (42, .getfield 13, 3), (45, .sipush (1000), 3), (48, .iload_n 1, 1), (49, .imul, 1), (50, .iload 5, 2), (52, .iadd, 1), (53, .iaload, 1), (54, .goto (4), 3), (57, .iconst (0), 1), (58, .iadd, 1), (59, .invokevirtual 189, 3), (62, .iinc 5 (1), 3), (65, .goto (-62), 3), (68, .return_, 1)]
theorem dc_Mo_figures : ∀ q ∈ dl_Mo_figures, decode (zd_yb m_Mo_figures) q.1 = .ok q.2 := by decide +kernel
def cm_Mo_figures (l : Launch) (B : zd_B) : List (Nat × zm_S) := [(0, om_p (oc_iload 2 1)), (1, om_p (oc_istore 5 3)), (3, om_p (oc_iload 5 5)), (5, om_p (oc_iload 3 6)), (6, om_p (oc_icmp_ge 68 9)), (9, om_p (oc_iload 5 11)), (11, om_p (oc_iload 4 13)), (13, om_p (oc_icmp_ne 22 16)), (16, om_p (oc_aload 0 17)), (17, om_p (oc_ci (46) 19)), (19, om_callv l B gM m_Mo_print 1 22), (22, om_p (oc_aload 0 23)), (23, om_p (oc_ci (48) 25)), (25, om_p (oc_iload 5 27)), (27, om_p (oc_if_lt 57 30)), (30, om_p (oc_iload 5 32)), (32, om_p (oc_aload 0 33)), (33, om_getf gM 4 36), (36, om_p (oc_iload 1 37)), (37, om_ald gM 0 38), (38, om_p (oc_icmp_ge 57 41)), (41, om_p (oc_aload 0 42)), (42, om_getf gM 3 45), (45, om_p (oc_ci (1000) 48)), (48, om_p (oc_iload 1 49)), (49, om_p (oc_imul 50)), (50, om_p (oc_iload 5 52)), (52, om_p (oc_iadd 53)), (53, om_ald gM 0 54), (54, om_p (oc_goto 58)), (57, om_p (oc_ci (0) 58)), (58, om_p (oc_iadd 59)), (59, om_callv l B gM m_Mo_print 1 62), (62, om_p (oc_iinc 5 (1) 65)), (65, om_p (oc_goto 3)), (68, om_vret)]
set_option maxRecDepth 20000 in
theorem okm_Mo_figures {l : Launch} {B : zd_B} (hG : zd_G B) (hl : l.stackTraces = false) : ∀ q ∈ cm_Mo_figures l B, zm_ok l B gM m_Mo_figures q.1 q.2 := by
  unfold cm_Mo_figures
  refine zm_ac (om_pk nt_iload (ok_iload_n (l := l) (B := B) (y := m_Mo_figures) (pc := 0) (k := 2) rfl (zd_dr dc_Mo_figures 0 rfl))) ?_
  refine zm_ac (om_pk nt_istore (ok_istore (l := l) (B := B) (y := m_Mo_figures) (pc := 1) (zd_dr dc_Mo_figures 1 rfl) (by decide))) ?_
  refine zm_ac (om_pk nt_iload (ok_iload (l := l) (B := B) (y := m_Mo_figures) (pc := 3) (zd_dr dc_Mo_figures 2 rfl))) ?_
  refine zm_ac (om_pk nt_iload (ok_iload_n (l := l) (B := B) (y := m_Mo_figures) (pc := 5) (k := 3) rfl (zd_dr dc_Mo_figures 3 rfl))) ?_
  refine zm_ac (om_pk nt_icmp_ge (ok_icmp_ge (l := l) (B := B) (y := m_Mo_figures) (pc := 6) (zd_dr dc_Mo_figures 4 rfl) (by decide))) ?_
  refine zm_ac (om_pk nt_iload (ok_iload (l := l) (B := B) (y := m_Mo_figures) (pc := 9) (zd_dr dc_Mo_figures 5 rfl))) ?_
  refine zm_ac (om_pk nt_iload (ok_iload (l := l) (B := B) (y := m_Mo_figures) (pc := 11) (zd_dr dc_Mo_figures 6 rfl))) ?_
  refine zm_ac (om_pk nt_icmp_ne (ok_icmp_ne (l := l) (B := B) (y := m_Mo_figures) (pc := 13) (zd_dr dc_Mo_figures 7 rfl) (by decide))) ?_
  refine zm_ac (om_pk nt_aload (ok_aload_n (l := l) (B := B) (y := m_Mo_figures) (pc := 16) (k := 0) rfl (zd_dr dc_Mo_figures 8 rfl))) ?_
  refine zm_ac (om_pk nt_ci (ok_bipush (l := l) (B := B) (y := m_Mo_figures) (pc := 17) (n := (46)) (zd_dr dc_Mo_figures 9 rfl) rfl)) ?_
  refine zm_ac (ok_mcallv rfl (ok_callv (l := l) (B := B) (y := m_Mo_figures) (pc := 19) hG (ci := 8) rfl cf_Mo_figures_Mo_print rfl (List.mem_of_getElem? (i := 1144) (by decide +kernel)) (List.mem_of_getElem? (i := 1146) (by decide +kernel)) (List.mem_of_getElem? (i := 52) (by decide +kernel)) (zd_dr dc_Mo_figures 10 rfl))) ?_
  refine zm_ac (om_pk nt_aload (ok_aload_n (l := l) (B := B) (y := m_Mo_figures) (pc := 22) (k := 0) rfl (zd_dr dc_Mo_figures 11 rfl))) ?_
  refine zm_ac (om_pk nt_ci (ok_bipush (l := l) (B := B) (y := m_Mo_figures) (pc := 23) (n := (48)) (zd_dr dc_Mo_figures 12 rfl) rfl)) ?_
  refine zm_ac (om_pk nt_iload (ok_iload (l := l) (B := B) (y := m_Mo_figures) (pc := 25) (zd_dr dc_Mo_figures 13 rfl))) ?_
  refine zm_ac (om_pk nt_if_lt (ok_if_lt (l := l) (B := B) (y := m_Mo_figures) (pc := 27) (zd_dr dc_Mo_figures 14 rfl) (by decide))) ?_
  refine zm_ac (om_pk nt_iload (ok_iload (l := l) (B := B) (y := m_Mo_figures) (pc := 30) (zd_dr dc_Mo_figures 15 rfl))) ?_
  refine zm_ac (om_pk nt_aload (ok_aload_n (l := l) (B := B) (y := m_Mo_figures) (pc := 32) (k := 0) rfl (zd_dr dc_Mo_figures 16 rfl))) ?_
  refine zm_ac (ok_mgetf rfl (ok_getf (l := l) (B := B) (y := m_Mo_figures) (pc := 33) hG (C := zR8) (T := zT8) (N := 21) (ci := 8) (k := 4) rfl zl8 (by decide) (List.mem_of_getElem? (i := 886) (by decide +kernel)) (zd_dr dc_Mo_figures 17 rfl))) ?_
  refine zm_ac (om_pk nt_iload (ok_iload_n (l := l) (B := B) (y := m_Mo_figures) (pc := 36) (k := 1) rfl (zd_dr dc_Mo_figures 18 rfl))) ?_
  refine zm_ac (ok_miaload (ok_iaload (l := l) (B := B) (y := m_Mo_figures) (pc := 37) hG (zd_dr dc_Mo_figures 19 rfl))) ?_
  refine zm_ac (om_pk nt_icmp_ge (ok_icmp_ge (l := l) (B := B) (y := m_Mo_figures) (pc := 38) (zd_dr dc_Mo_figures 20 rfl) (by decide))) ?_
  refine zm_ac (om_pk nt_aload (ok_aload_n (l := l) (B := B) (y := m_Mo_figures) (pc := 41) (k := 0) rfl (zd_dr dc_Mo_figures 21 rfl))) ?_
  refine zm_ac (ok_mgetf rfl (ok_getf (l := l) (B := B) (y := m_Mo_figures) (pc := 42) hG (C := zR8) (T := zT8) (N := 21) (ci := 8) (k := 3) rfl zl8 (by decide) (List.mem_of_getElem? (i := 885) (by decide +kernel)) (zd_dr dc_Mo_figures 22 rfl))) ?_
  refine zm_ac (om_pk nt_ci (ok_sipush (l := l) (B := B) (y := m_Mo_figures) (pc := 45) (n := (1000)) (zd_dr dc_Mo_figures 23 rfl) rfl)) ?_
  refine zm_ac (om_pk nt_iload (ok_iload_n (l := l) (B := B) (y := m_Mo_figures) (pc := 48) (k := 1) rfl (zd_dr dc_Mo_figures 24 rfl))) ?_
  refine zm_ac (om_pk nt_imul (ok_imul (l := l) (B := B) (y := m_Mo_figures) (pc := 49) (zd_dr dc_Mo_figures 25 rfl))) ?_
  refine zm_ac (om_pk nt_iload (ok_iload (l := l) (B := B) (y := m_Mo_figures) (pc := 50) (zd_dr dc_Mo_figures 26 rfl))) ?_
  refine zm_ac (om_pk nt_iadd (ok_iadd (l := l) (B := B) (y := m_Mo_figures) (pc := 52) (zd_dr dc_Mo_figures 27 rfl))) ?_
  refine zm_ac (ok_miaload (ok_iaload (l := l) (B := B) (y := m_Mo_figures) (pc := 53) hG (zd_dr dc_Mo_figures 28 rfl))) ?_
  refine zm_ac (om_pk nt_goto (ok_goto (l := l) (B := B) (y := m_Mo_figures) (pc := 54) (zd_dr dc_Mo_figures 29 rfl) (by decide))) ?_
  refine zm_ac (om_pk nt_ci (ok_iconst (l := l) (B := B) (y := m_Mo_figures) (pc := 57) (n := (0)) (zd_dr dc_Mo_figures 30 rfl) rfl)) ?_
  refine zm_ac (om_pk nt_iadd (ok_iadd (l := l) (B := B) (y := m_Mo_figures) (pc := 58) (zd_dr dc_Mo_figures 31 rfl))) ?_
  refine zm_ac (ok_mcallv rfl (ok_callv (l := l) (B := B) (y := m_Mo_figures) (pc := 59) hG (ci := 8) rfl cf_Mo_figures_Mo_print rfl (List.mem_of_getElem? (i := 1144) (by decide +kernel)) (List.mem_of_getElem? (i := 1146) (by decide +kernel)) (List.mem_of_getElem? (i := 52) (by decide +kernel)) (zd_dr dc_Mo_figures 32 rfl))) ?_
  refine zm_ac (om_pk nt_iinc (ok_iinc (l := l) (B := B) (y := m_Mo_figures) (pc := 62) (zd_dr dc_Mo_figures 33 rfl) (by decide) rfl)) ?_
  refine zm_ac (om_pk nt_goto (ok_goto (l := l) (B := B) (y := m_Mo_figures) (pc := 65) (zd_dr dc_Mo_figures 34 rfl) (by decide))) ?_
  refine zm_ac (ok_mvret (ok_vret (l := l) (B := B) (y := m_Mo_figures) (pc := 68) rfl (zd_dr dc_Mo_figures 35 rfl))) ?_
  exact zm_an
def dl_Mo_exponent : List (Nat × Instr × Nat) := [(0, .aload_n 0, 1), (1, .bipush (69), 2), (3, .invokevirtual 189, 3), (6, .aload_n 0, 1), (7, .iload_n 1, 1), (8, .ifCond .ge (8), 3), (11, .bipush (45), 2), (13, .goto (5), 3), (16, .bipush (43), 2), (18, .invokevirtual 189, 3), (21, .iload_n 1, 1), (22, .ifCond .ge (8), 3), (25, .iload_n 1, 1), (26, .ineg, 1), (27, .goto (4), 3), (30, .iload_n 1, 1), (31, .istore_n 2, 1), (32, .iconst (1), 1), (33, .istore_n 3, 1), (34, .iload_n 2, 1), (35, .iload_n 3, 1), (36, .idiv, 1), (37, .bipush (9), 2), (39, .if_icmp .le (11), 3), (42, .iload_n 3, 1), (43, .bipush (10), 2), (45, .imul, 1), (46, .istore_n 3, 1), (47, .goto (-13), 3), (50, .iload_n 3, 1), (51, .ifCond .le (24), 3), (54, .aload_n 0, 1), (55, .bipush (48), 2), (57, .iload_n 2, 1), (58, .iload_n 3, 1), (59, .idiv, 1), (60, .bipush (10), 2), (62, .irem, 1), (63, .iadd, 1), (64, .invokevirtual 189, 3), (67, .iload_n 3, 1), (68, .bipush (10), 2), (70, .idiv, 1), (71, .istore_n 3, 1), (72, .goto (-22), 3), (75, .return_, 1)]
theorem dc_Mo_exponent : ∀ q ∈ dl_Mo_exponent, decode (zd_yb m_Mo_exponent) q.1 = .ok q.2 := by decide +kernel
def cm_Mo_exponent (l : Launch) (B : zd_B) : List (Nat × zm_S) := [(0, om_p (oc_aload 0 1)), (1, om_p (oc_ci (69) 3)), (3, om_callv l B gM m_Mo_print 1 6), (6, om_p (oc_aload 0 7)), (7, om_p (oc_iload 1 8)), (8, om_p (oc_if_ge 16 11)), (11, om_p (oc_ci (45) 13)), (13, om_p (oc_goto 18)), (16, om_p (oc_ci (43) 18)), (18, om_callv l B gM m_Mo_print 1 21), (21, om_p (oc_iload 1 22)), (22, om_p (oc_if_ge 30 25)), (25, om_p (oc_iload 1 26)), (26, om_p (oc_ineg 27)), (27, om_p (oc_goto 31)), (30, om_p (oc_iload 1 31)), (31, om_p (oc_istore 2 32)), (32, om_p (oc_ci (1) 33)), (33, om_p (oc_istore 3 34)), (34, om_p (oc_iload 2 35)), (35, om_p (oc_iload 3 36)), (36, om_p (oc_idiv 37)), (37, om_p (oc_ci (9) 39)), (39, om_p (oc_icmp_le 50 42)), (42, om_p (oc_iload 3 43)), (43, om_p (oc_ci (10) 45)), (45, om_p (oc_imul 46)), (46, om_p (oc_istore 3 47)), (47, om_p (oc_goto 34)), (50, om_p (oc_iload 3 51)), (51, om_p (oc_if_le 75 54)), (54, om_p (oc_aload 0 55)), (55, om_p (oc_ci (48) 57)), (57, om_p (oc_iload 2 58)), (58, om_p (oc_iload 3 59)), (59, om_p (oc_idiv 60)), (60, om_p (oc_ci (10) 62)), (62, om_p (oc_irem 63)), (63, om_p (oc_iadd 64)), (64, om_callv l B gM m_Mo_print 1 67), (67, om_p (oc_iload 3 68)), (68, om_p (oc_ci (10) 70)), (70, om_p (oc_idiv 71)), (71, om_p (oc_istore 3 72)), (72, om_p (oc_goto 50)), (75, om_vret)]
set_option maxRecDepth 20000 in
theorem okm_Mo_exponent {l : Launch} {B : zd_B} (hG : zd_G B) (hl : l.stackTraces = false) : ∀ q ∈ cm_Mo_exponent l B, zm_ok l B gM m_Mo_exponent q.1 q.2 := by
  unfold cm_Mo_exponent
  refine zm_ac (om_pk nt_aload (ok_aload_n (l := l) (B := B) (y := m_Mo_exponent) (pc := 0) (k := 0) rfl (zd_dr dc_Mo_exponent 0 rfl))) ?_
  refine zm_ac (om_pk nt_ci (ok_bipush (l := l) (B := B) (y := m_Mo_exponent) (pc := 1) (n := (69)) (zd_dr dc_Mo_exponent 1 rfl) rfl)) ?_
  refine zm_ac (ok_mcallv rfl (ok_callv (l := l) (B := B) (y := m_Mo_exponent) (pc := 3) hG (ci := 8) rfl cf_Mo_exponent_Mo_print rfl (List.mem_of_getElem? (i := 1144) (by decide +kernel)) (List.mem_of_getElem? (i := 1146) (by decide +kernel)) (List.mem_of_getElem? (i := 52) (by decide +kernel)) (zd_dr dc_Mo_exponent 2 rfl))) ?_
  refine zm_ac (om_pk nt_aload (ok_aload_n (l := l) (B := B) (y := m_Mo_exponent) (pc := 6) (k := 0) rfl (zd_dr dc_Mo_exponent 3 rfl))) ?_
  refine zm_ac (om_pk nt_iload (ok_iload_n (l := l) (B := B) (y := m_Mo_exponent) (pc := 7) (k := 1) rfl (zd_dr dc_Mo_exponent 4 rfl))) ?_
  refine zm_ac (om_pk nt_if_ge (ok_if_ge (l := l) (B := B) (y := m_Mo_exponent) (pc := 8) (zd_dr dc_Mo_exponent 5 rfl) (by decide))) ?_
  refine zm_ac (om_pk nt_ci (ok_bipush (l := l) (B := B) (y := m_Mo_exponent) (pc := 11) (n := (45)) (zd_dr dc_Mo_exponent 6 rfl) rfl)) ?_
  refine zm_ac (om_pk nt_goto (ok_goto (l := l) (B := B) (y := m_Mo_exponent) (pc := 13) (zd_dr dc_Mo_exponent 7 rfl) (by decide))) ?_
  refine zm_ac (om_pk nt_ci (ok_bipush (l := l) (B := B) (y := m_Mo_exponent) (pc := 16) (n := (43)) (zd_dr dc_Mo_exponent 8 rfl) rfl)) ?_
  refine zm_ac (ok_mcallv rfl (ok_callv (l := l) (B := B) (y := m_Mo_exponent) (pc := 18) hG (ci := 8) rfl cf_Mo_exponent_Mo_print rfl (List.mem_of_getElem? (i := 1144) (by decide +kernel)) (List.mem_of_getElem? (i := 1146) (by decide +kernel)) (List.mem_of_getElem? (i := 52) (by decide +kernel)) (zd_dr dc_Mo_exponent 9 rfl))) ?_
  refine zm_ac (om_pk nt_iload (ok_iload_n (l := l) (B := B) (y := m_Mo_exponent) (pc := 21) (k := 1) rfl (zd_dr dc_Mo_exponent 10 rfl))) ?_
  refine zm_ac (om_pk nt_if_ge (ok_if_ge (l := l) (B := B) (y := m_Mo_exponent) (pc := 22) (zd_dr dc_Mo_exponent 11 rfl) (by decide))) ?_
  refine zm_ac (om_pk nt_iload (ok_iload_n (l := l) (B := B) (y := m_Mo_exponent) (pc := 25) (k := 1) rfl (zd_dr dc_Mo_exponent 12 rfl))) ?_
  refine zm_ac (om_pk nt_ineg (ok_ineg (l := l) (B := B) (y := m_Mo_exponent) (pc := 26) (zd_dr dc_Mo_exponent 13 rfl))) ?_
  refine zm_ac (om_pk nt_goto (ok_goto (l := l) (B := B) (y := m_Mo_exponent) (pc := 27) (zd_dr dc_Mo_exponent 14 rfl) (by decide))) ?_
  refine zm_ac (om_pk nt_iload (ok_iload_n (l := l) (B := B) (y := m_Mo_exponent) (pc := 30) (k := 1) rfl (zd_dr dc_Mo_exponent 15 rfl))) ?_
  refine zm_ac (om_pk nt_istore (ok_istore_n (l := l) (B := B) (y := m_Mo_exponent) (pc := 31) (k := 2) rfl (zd_dr dc_Mo_exponent 16 rfl) (by decide))) ?_
  refine zm_ac (om_pk nt_ci (ok_iconst (l := l) (B := B) (y := m_Mo_exponent) (pc := 32) (n := (1)) (zd_dr dc_Mo_exponent 17 rfl) rfl)) ?_
  refine zm_ac (om_pk nt_istore (ok_istore_n (l := l) (B := B) (y := m_Mo_exponent) (pc := 33) (k := 3) rfl (zd_dr dc_Mo_exponent 18 rfl) (by decide))) ?_
  refine zm_ac (om_pk nt_iload (ok_iload_n (l := l) (B := B) (y := m_Mo_exponent) (pc := 34) (k := 2) rfl (zd_dr dc_Mo_exponent 19 rfl))) ?_
  refine zm_ac (om_pk nt_iload (ok_iload_n (l := l) (B := B) (y := m_Mo_exponent) (pc := 35) (k := 3) rfl (zd_dr dc_Mo_exponent 20 rfl))) ?_
  refine zm_ac (om_pk nt_idiv (ok_idiv (l := l) (B := B) (y := m_Mo_exponent) (pc := 36) (zd_dr dc_Mo_exponent 21 rfl))) ?_
  refine zm_ac (om_pk nt_ci (ok_bipush (l := l) (B := B) (y := m_Mo_exponent) (pc := 37) (n := (9)) (zd_dr dc_Mo_exponent 22 rfl) rfl)) ?_
  refine zm_ac (om_pk nt_icmp_le (ok_icmp_le (l := l) (B := B) (y := m_Mo_exponent) (pc := 39) (zd_dr dc_Mo_exponent 23 rfl) (by decide))) ?_
  refine zm_ac (om_pk nt_iload (ok_iload_n (l := l) (B := B) (y := m_Mo_exponent) (pc := 42) (k := 3) rfl (zd_dr dc_Mo_exponent 24 rfl))) ?_
  refine zm_ac (om_pk nt_ci (ok_bipush (l := l) (B := B) (y := m_Mo_exponent) (pc := 43) (n := (10)) (zd_dr dc_Mo_exponent 25 rfl) rfl)) ?_
  refine zm_ac (om_pk nt_imul (ok_imul (l := l) (B := B) (y := m_Mo_exponent) (pc := 45) (zd_dr dc_Mo_exponent 26 rfl))) ?_
  refine zm_ac (om_pk nt_istore (ok_istore_n (l := l) (B := B) (y := m_Mo_exponent) (pc := 46) (k := 3) rfl (zd_dr dc_Mo_exponent 27 rfl) (by decide))) ?_
  refine zm_ac (om_pk nt_goto (ok_goto (l := l) (B := B) (y := m_Mo_exponent) (pc := 47) (zd_dr dc_Mo_exponent 28 rfl) (by decide))) ?_
  refine zm_ac (om_pk nt_iload (ok_iload_n (l := l) (B := B) (y := m_Mo_exponent) (pc := 50) (k := 3) rfl (zd_dr dc_Mo_exponent 29 rfl))) ?_
  refine zm_ac (om_pk nt_if_le (ok_if_le (l := l) (B := B) (y := m_Mo_exponent) (pc := 51) (zd_dr dc_Mo_exponent 30 rfl) (by decide))) ?_
  refine zm_ac (om_pk nt_aload (ok_aload_n (l := l) (B := B) (y := m_Mo_exponent) (pc := 54) (k := 0) rfl (zd_dr dc_Mo_exponent 31 rfl))) ?_
  refine zm_ac (om_pk nt_ci (ok_bipush (l := l) (B := B) (y := m_Mo_exponent) (pc := 55) (n := (48)) (zd_dr dc_Mo_exponent 32 rfl) rfl)) ?_
  refine zm_ac (om_pk nt_iload (ok_iload_n (l := l) (B := B) (y := m_Mo_exponent) (pc := 57) (k := 2) rfl (zd_dr dc_Mo_exponent 33 rfl))) ?_
  refine zm_ac (om_pk nt_iload (ok_iload_n (l := l) (B := B) (y := m_Mo_exponent) (pc := 58) (k := 3) rfl (zd_dr dc_Mo_exponent 34 rfl))) ?_
  refine zm_ac (om_pk nt_idiv (ok_idiv (l := l) (B := B) (y := m_Mo_exponent) (pc := 59) (zd_dr dc_Mo_exponent 35 rfl))) ?_
  refine zm_ac (om_pk nt_ci (ok_bipush (l := l) (B := B) (y := m_Mo_exponent) (pc := 60) (n := (10)) (zd_dr dc_Mo_exponent 36 rfl) rfl)) ?_
  refine zm_ac (om_pk nt_irem (ok_irem (l := l) (B := B) (y := m_Mo_exponent) (pc := 62) (zd_dr dc_Mo_exponent 37 rfl))) ?_
  refine zm_ac (om_pk nt_iadd (ok_iadd (l := l) (B := B) (y := m_Mo_exponent) (pc := 63) (zd_dr dc_Mo_exponent 38 rfl))) ?_
  refine zm_ac (ok_mcallv rfl (ok_callv (l := l) (B := B) (y := m_Mo_exponent) (pc := 64) hG (ci := 8) rfl cf_Mo_exponent_Mo_print rfl (List.mem_of_getElem? (i := 1144) (by decide +kernel)) (List.mem_of_getElem? (i := 1146) (by decide +kernel)) (List.mem_of_getElem? (i := 52) (by decide +kernel)) (zd_dr dc_Mo_exponent 39 rfl))) ?_
  refine zm_ac (om_pk nt_iload (ok_iload_n (l := l) (B := B) (y := m_Mo_exponent) (pc := 67) (k := 3) rfl (zd_dr dc_Mo_exponent 40 rfl))) ?_
  refine zm_ac (om_pk nt_ci (ok_bipush (l := l) (B := B) (y := m_Mo_exponent) (pc := 68) (n := (10)) (zd_dr dc_Mo_exponent 41 rfl) rfl)) ?_
  refine zm_ac (om_pk nt_idiv (ok_idiv (l := l) (B := B) (y := m_Mo_exponent) (pc := 70) (zd_dr dc_Mo_exponent 42 rfl))) ?_
  refine zm_ac (om_pk nt_istore (ok_istore_n (l := l) (B := B) (y := m_Mo_exponent) (pc := 71) (k := 3) rfl (zd_dr dc_Mo_exponent 43 rfl) (by decide))) ?_
  refine zm_ac (om_pk nt_goto (ok_goto (l := l) (B := B) (y := m_Mo_exponent) (pc := 72) (zd_dr dc_Mo_exponent 44 rfl) (by decide))) ?_
  refine zm_ac (ok_mvret (ok_vret (l := l) (B := B) (y := m_Mo_exponent) (pc := 75) rfl (zd_dr dc_Mo_exponent 45 rfl))) ?_
  exact zm_an
def dl_Mo_down3 : List (Nat × Instr × Nat) := [(0, .iload_n 0, 1), (1, .ifCond .lt (11), 3), (4, .iload_n 0, 1), (5, .iconst (3), 1), (6, .idiv, 1), (7, .iconst (3), 1), (8, .imul, 1), (9, .goto (11), 3), (12, .iconst (2), 1), (13, .iload_n 0, 1), (14, .isub, 1), (15, .iconst (3), 1), (16, .idiv, 1), (17, .iconst (3), 1), (18, .imul, 1), (19, .ineg, 1), (20, .ireturn, 1)]
theorem dc_Mo_down3 : ∀ q ∈ dl_Mo_down3, decode (zd_yb m_Mo_down3) q.1 = .ok q.2 := by decide +kernel
def cm_Mo_down3 (l : Launch) (B : zd_B) : List (Nat × zm_S) := [(0, om_p (oc_iload 0 1)), (1, om_p (oc_if_lt 12 4)), (4, om_p (oc_iload 0 5)), (5, om_p (oc_ci (3) 6)), (6, om_p (oc_idiv 7)), (7, om_p (oc_ci (3) 8)), (8, om_p (oc_imul 9)), (9, om_p (oc_goto 20)), (12, om_p (oc_ci (2) 13)), (13, om_p (oc_iload 0 14)), (14, om_p (oc_isub 15)), (15, om_p (oc_ci (3) 16)), (16, om_p (oc_idiv 17)), (17, om_p (oc_ci (3) 18)), (18, om_p (oc_imul 19)), (19, om_p (oc_ineg 20)), (20, om_iret)]
set_option maxRecDepth 20000 in
theorem okm_Mo_down3 {l : Launch} {B : zd_B} (hG : zd_G B) (hl : l.stackTraces = false) : ∀ q ∈ cm_Mo_down3 l B, zm_ok l B gM m_Mo_down3 q.1 q.2 := by
  unfold cm_Mo_down3
  refine zm_ac (om_pk nt_iload (ok_iload_n (l := l) (B := B) (y := m_Mo_down3) (pc := 0) (k := 0) rfl (zd_dr dc_Mo_down3 0 rfl))) ?_
  refine zm_ac (om_pk nt_if_lt (ok_if_lt (l := l) (B := B) (y := m_Mo_down3) (pc := 1) (zd_dr dc_Mo_down3 1 rfl) (by decide))) ?_
  refine zm_ac (om_pk nt_iload (ok_iload_n (l := l) (B := B) (y := m_Mo_down3) (pc := 4) (k := 0) rfl (zd_dr dc_Mo_down3 2 rfl))) ?_
  refine zm_ac (om_pk nt_ci (ok_iconst (l := l) (B := B) (y := m_Mo_down3) (pc := 5) (n := (3)) (zd_dr dc_Mo_down3 3 rfl) rfl)) ?_
  refine zm_ac (om_pk nt_idiv (ok_idiv (l := l) (B := B) (y := m_Mo_down3) (pc := 6) (zd_dr dc_Mo_down3 4 rfl))) ?_
  refine zm_ac (om_pk nt_ci (ok_iconst (l := l) (B := B) (y := m_Mo_down3) (pc := 7) (n := (3)) (zd_dr dc_Mo_down3 5 rfl) rfl)) ?_
  refine zm_ac (om_pk nt_imul (ok_imul (l := l) (B := B) (y := m_Mo_down3) (pc := 8) (zd_dr dc_Mo_down3 6 rfl))) ?_
  refine zm_ac (om_pk nt_goto (ok_goto (l := l) (B := B) (y := m_Mo_down3) (pc := 9) (zd_dr dc_Mo_down3 7 rfl) (by decide))) ?_
  refine zm_ac (om_pk nt_ci (ok_iconst (l := l) (B := B) (y := m_Mo_down3) (pc := 12) (n := (2)) (zd_dr dc_Mo_down3 8 rfl) rfl)) ?_
  refine zm_ac (om_pk nt_iload (ok_iload_n (l := l) (B := B) (y := m_Mo_down3) (pc := 13) (k := 0) rfl (zd_dr dc_Mo_down3 9 rfl))) ?_
  refine zm_ac (om_pk nt_isub (ok_isub (l := l) (B := B) (y := m_Mo_down3) (pc := 14) (zd_dr dc_Mo_down3 10 rfl))) ?_
  refine zm_ac (om_pk nt_ci (ok_iconst (l := l) (B := B) (y := m_Mo_down3) (pc := 15) (n := (3)) (zd_dr dc_Mo_down3 11 rfl) rfl)) ?_
  refine zm_ac (om_pk nt_idiv (ok_idiv (l := l) (B := B) (y := m_Mo_down3) (pc := 16) (zd_dr dc_Mo_down3 12 rfl))) ?_
  refine zm_ac (om_pk nt_ci (ok_iconst (l := l) (B := B) (y := m_Mo_down3) (pc := 17) (n := (3)) (zd_dr dc_Mo_down3 13 rfl) rfl)) ?_
  refine zm_ac (om_pk nt_imul (ok_imul (l := l) (B := B) (y := m_Mo_down3) (pc := 18) (zd_dr dc_Mo_down3 14 rfl))) ?_
  refine zm_ac (om_pk nt_ineg (ok_ineg (l := l) (B := B) (y := m_Mo_down3) (pc := 19) (zd_dr dc_Mo_down3 15 rfl))) ?_
  refine zm_ac (ok_miret (ok_iret (l := l) (B := B) (y := m_Mo_down3) (pc := 20) rfl (zd_dr dc_Mo_down3 16 rfl))) ?_
  exact zm_an
def dl_Mo_written : List (Nat × Instr × Nat) := [(0, .aload_n 0, 1), (1, .iload_n 1, 1), (2, .invokestatic 113, 3), (5, .ifCond .ne (12), 3), (8, .iload_n 2, 1), (9, .ifCond .lt (8), 3), (12, .iload_n 2, 1), (13, .iconst (2), 1), (14, .if_icmp .le (7), 3), (17, .iconst (1), 1), (18, .goto (4), 3), (21, .iconst (0), 1), (22, .putfield 41, 3), (25, .aload_n 0, 1), (26, .getfield 41, 3), (29, .ifCond .le (5), 3), (32, .iconst (0), 1), (33, .ireturn, 1), (34, .aload_n 0, 1), (35, .iconst (0), 1), (36, .putfield 186, 3), (39, .aload_n 0, 1), (40, .getfield 19, 3), (43, .iload_n 1, 1), (44, .baload, 1), (45, .ifCond .eq (9), 3), (48, .aload_n 0, 1), (49, .bipush (45), 2), (51, .invokevirtual 189, 3), (54, .aload_n 0, 1), (55, .getfield 16, 3), (58, .iload_n 1, 1), (59, .iaload, 1), (60, .istore_n 3, 1), (61, .aload_n 0, 1), (62, .getfield 23, 3), (65, .iload_n 1, 1), (66, .iaload, 1), (67, .istore 4, 2), (69, .iload_n 3, 1), (70, .iconst (1), 1), (71, .isub, 1), (72, .iload 4, 2), (74, .isub, 1), (75, .istore 5, 2), (77, .iload_n 2, 1), (78, .iconst (1), 1), (79, .if_icmp .ne (34), 3), (82, .iload 4, 2), (84, .ifCond .gt (29), 3), (87, .aload_n 0, 1), (88, .iload_n 1, 1), (89, .iconst (0), 1), (90, .aload_n 0, 1), (91, .iload_n 1, 1), (92, .invokevirtual 120, 3), (95, .ifCond .eq (7), 3), (98, .iconst (1), 1), (99, .goto (7), 3), (102, .iload_n 3, 1), (103, .iload 4, 2), (105, .isub, 1), (106, .iconst (-1), 1), (107, .invokevirtual 192, 3), (110, .goto (179), 3), (113, .iload 4, 2), (115, .ifCond .lt (55), 3), (118, .iload_n 2, 1), (119, .iconst (1), 1), (120, .if_icmp .eq (10), 3), (123, .iload 5, 2), (125, .bipush (-6), 2), (127, .if_icmp .lt (43), 3), (130, .aload_n 0, 1), (131, .iload_n 1, 1), (132, .iload_n 3, 1), (133, .iload 4, 2), (135, .isub, 1), (136, .iconst (1), 1), (137, .if_icmp .ge (12), 3), (140, .iload_n 3, 1), (141, .iload 4, 2), (143, .isub, 1), (144, .iconst (1), 1), (145, .isub, 1), (146, .goto (4), 3), (149, .iconst (0), 1), (150, .iload_n 3, 1), (151, .iload 4, 2), (153, .ifCond .ne (7), 3), (156, .iconst (-1), 1), (157, .goto (7), 3), (160, .iload_n 3, 1), (161, .iload 4, 2), (163, .isub, 1), (164, .invokevirtual 192, 3), (167, .goto (122), 3), (170, .iload_n 2, 1), (171, .ifCond .ne (20), 3), (174, .aload_n 0, 1), (175, .iload_n 1, 1), (176, .iconst (0), 1), (177, .iload_n 3, 1), (178, .iconst (1), 1), (179, .invokevirtual 192, 3), (182, .aload_n 0, 1), (183, .iload 5, 2), (185, .invokevirtual 196, 3), (188, .goto (101), 3), (191, .aload_n 0, 1), (192, .iload_n 1, 1), (193, .invokevirtual 120, 3), (196, .ifCond .eq (40), 3), (199, .iload 5, 2), (201, .ineg, 1), (202, .invokestatic 199, 3), (205, .ineg, 1), (206, .istore 6, 2), (208, .aload_n 0, 1), (209, .iload_n 1, 1), (210, .iconst (0), 1), (211, .iconst (1), 1), (212, .iload 6, 2), (214, .iadd, 1), (215, .iload 5, 2), (217, .isub, 1), (218, .iconst (1), 1), (219, .invokevirtual 192, 3), (222, .iload 6, 2), (224, .ifCond .eq (9), 3), (227, .aload_n 0, 1), (228, .iload 6, 2), (230, .invokevirtual 196, 3), (233, .goto (56), 3), (236, .iload 5, 2), (238, .invokestatic 199, 3), (241, .istore 6, 2), (243, .aload_n 0, 1), (244, .iload_n 1, 1), (245, .iconst (0), 1), (246, .iload_n 3, 1), (247, .iload 5, 2), (249, .iload 6, 2), (251, .isub, 1), (252, .iconst (1), 1), (253, .iadd, 1), (254, .if_icmp .le (7), 3), (257, .iload_n 3, 1), (258, .goto (10), 3), (261, .iload 5, 2), (263, .iload 6, 2), (265, .isub, 1), (266, .iconst (1), 1), (267, .iadd, 1), (268, .iload 5, 2), (270, .iload 6, 2), (272, .isub, 1), (273, .iconst (1), 1), (274, .iadd, 1), (275, .invokevirtual 192, 3), (278, .iload 6, 2), (280, .ifCond .eq (9), 3), (283, .aload_n 0, 1), (284, .iload 6, 2), (286, .invokevirtual 196, 3), (289, .aload_n 0, 1), (290, .getfield 186, 3), (293, .ireturn, 1)]
theorem dc_Mo_written : ∀ q ∈ dl_Mo_written, decode (zd_yb m_Mo_written) q.1 = .ok q.2 := by decide +kernel
def cm_Mo_written (l : Launch) (B : zd_B) : List (Nat × zm_S) := [(0, om_p (oc_aload 0 1)), (1, om_p (oc_iload 1 2)), (2, om_calls l B gM m_Mo_no 1 5), (5, om_p (oc_if_ne 17 8)), (8, om_p (oc_iload 2 9)), (9, om_p (oc_if_lt 17 12)), (12, om_p (oc_iload 2 13)), (13, om_p (oc_ci (2) 14)), (14, om_p (oc_icmp_le 21 17)), (17, om_p (oc_ci (1) 18)), (18, om_p (oc_goto 22)), (21, om_p (oc_ci (0) 22)), (22, om_puti gM 0 25), (25, om_p (oc_aload 0 26)), (26, om_getf gM 0 29), (29, om_p (oc_if_le 34 32)), (32, om_p (oc_ci (0) 33)), (33, om_iret), (34, om_p (oc_aload 0 35)), (35, om_p (oc_ci (0) 36)), (36, om_puti gM 19 39), (39, om_p (oc_aload 0 40)), (40, om_getf gM 5 43), (43, om_p (oc_iload 1 44)), (44, om_ald gM 2 45), (45, om_p (oc_if_eq 54 48)), (48, om_p (oc_aload 0 49)), (49, om_p (oc_ci (45) 51)), (51, om_callv l B gM m_Mo_print 1 54), (54, om_p (oc_aload 0 55)), (55, om_getf gM 4 58), (58, om_p (oc_iload 1 59)), (59, om_ald gM 0 60), (60, om_p (oc_istore 3 61)), (61, om_p (oc_aload 0 62)), (62, om_getf gM 6 65), (65, om_p (oc_iload 1 66)), (66, om_ald gM 0 67), (67, om_p (oc_istore 4 69)), (69, om_p (oc_iload 3 70)), (70, om_p (oc_ci (1) 71)), (71, om_p (oc_isub 72)), (72, om_p (oc_iload 4 74)), (74, om_p (oc_isub 75)), (75, om_p (oc_istore 5 77)), (77, om_p (oc_iload 2 78)), (78, om_p (oc_ci (1) 79)), (79, om_p (oc_icmp_ne 113 82)), (82, om_p (oc_iload 4 84)), (84, om_p (oc_if_gt 113 87)), (87, om_p (oc_aload 0 88)), (88, om_p (oc_iload 1 89)), (89, om_p (oc_ci (0) 90)), (90, om_p (oc_aload 0 91)), (91, om_p (oc_iload 1 92)), (92, om_callv l B gM m_Mo_isZero 1 95), (95, om_p (oc_if_eq 102 98)), (98, om_p (oc_ci (1) 99)), (99, om_p (oc_goto 106)), (102, om_p (oc_iload 3 103)), (103, om_p (oc_iload 4 105)), (105, om_p (oc_isub 106)), (106, om_p (oc_ci (-1) 107)), (107, om_callv l B gM m_Mo_figures 4 110), (110, om_p (oc_goto 289)), (113, om_p (oc_iload 4 115)), (115, om_p (oc_if_lt 170 118)), (118, om_p (oc_iload 2 119)), (119, om_p (oc_ci (1) 120)), (120, om_p (oc_icmp_eq 130 123)), (123, om_p (oc_iload 5 125)), (125, om_p (oc_ci (-6) 127)), (127, om_p (oc_icmp_lt 170 130)), (130, om_p (oc_aload 0 131)), (131, om_p (oc_iload 1 132)), (132, om_p (oc_iload 3 133)), (133, om_p (oc_iload 4 135)), (135, om_p (oc_isub 136)), (136, om_p (oc_ci (1) 137)), (137, om_p (oc_icmp_ge 149 140)), (140, om_p (oc_iload 3 141)), (141, om_p (oc_iload 4 143)), (143, om_p (oc_isub 144)), (144, om_p (oc_ci (1) 145)), (145, om_p (oc_isub 146)), (146, om_p (oc_goto 150)), (149, om_p (oc_ci (0) 150)), (150, om_p (oc_iload 3 151)), (151, om_p (oc_iload 4 153)), (153, om_p (oc_if_ne 160 156)), (156, om_p (oc_ci (-1) 157)), (157, om_p (oc_goto 164)), (160, om_p (oc_iload 3 161)), (161, om_p (oc_iload 4 163)), (163, om_p (oc_isub 164)), (164, om_callv l B gM m_Mo_figures 4 167), (167, om_p (oc_goto 289)), (170, om_p (oc_iload 2 171)), (171, om_p (oc_if_ne 191 174)), (174, om_p (oc_aload 0 175)), (175, om_p (oc_iload 1 176)), (176, om_p (oc_ci (0) 177)), (177, om_p (oc_iload 3 178)), (178, om_p (oc_ci (1) 179)), (179, om_callv l B gM m_Mo_figures 4 182), (182, om_p (oc_aload 0 183)), (183, om_p (oc_iload 5 185)), (185, om_callv l B gM m_Mo_exponent 1 188), (188, om_p (oc_goto 289)), (191, om_p (oc_aload 0 192)), (192, om_p (oc_iload 1 193)), (193, om_callv l B gM m_Mo_isZero 1 196), (196, om_p (oc_if_eq 236 199)), (199, om_p (oc_iload 5 201)), (201, om_p (oc_ineg 202)), (202, om_calls l B gM m_Mo_down3 1 205), (205, om_p (oc_ineg 206)), (206, om_p (oc_istore 6 208)), (208, om_p (oc_aload 0 209)), (209, om_p (oc_iload 1 210)), (210, om_p (oc_ci (0) 211)), (211, om_p (oc_ci (1) 212)), (212, om_p (oc_iload 6 214)), (214, om_p (oc_iadd 215)), (215, om_p (oc_iload 5 217)), (217, om_p (oc_isub 218)), (218, om_p (oc_ci (1) 219)), (219, om_callv l B gM m_Mo_figures 4 222), (222, om_p (oc_iload 6 224)), (224, om_p (oc_if_eq 233 227)), (227, om_p (oc_aload 0 228)), (228, om_p (oc_iload 6 230)), (230, om_callv l B gM m_Mo_exponent 1 233), (233, om_p (oc_goto 289)), (236, om_p (oc_iload 5 238)), (238, om_calls l B gM m_Mo_down3 1 241), (241, om_p (oc_istore 6 243)), (243, om_p (oc_aload 0 244)), (244, om_p (oc_iload 1 245)), (245, om_p (oc_ci (0) 246)), (246, om_p (oc_iload 3 247)), (247, om_p (oc_iload 5 249)), (249, om_p (oc_iload 6 251)), (251, om_p (oc_isub 252)), (252, om_p (oc_ci (1) 253)), (253, om_p (oc_iadd 254)), (254, om_p (oc_icmp_le 261 257)), (257, om_p (oc_iload 3 258)), (258, om_p (oc_goto 268)), (261, om_p (oc_iload 5 263)), (263, om_p (oc_iload 6 265)), (265, om_p (oc_isub 266)), (266, om_p (oc_ci (1) 267)), (267, om_p (oc_iadd 268)), (268, om_p (oc_iload 5 270)), (270, om_p (oc_iload 6 272)), (272, om_p (oc_isub 273)), (273, om_p (oc_ci (1) 274)), (274, om_p (oc_iadd 275)), (275, om_callv l B gM m_Mo_figures 4 278), (278, om_p (oc_iload 6 280)), (280, om_p (oc_if_eq 289 283)), (283, om_p (oc_aload 0 284)), (284, om_p (oc_iload 6 286)), (286, om_callv l B gM m_Mo_exponent 1 289), (289, om_p (oc_aload 0 290)), (290, om_getf gM 19 293), (293, om_iret)]
set_option maxRecDepth 20000 in
theorem okm_Mo_written {l : Launch} {B : zd_B} (hG : zd_G B) (hl : l.stackTraces = false) : ∀ q ∈ cm_Mo_written l B, zm_ok l B gM m_Mo_written q.1 q.2 := by
  unfold cm_Mo_written
  refine zm_ac (om_pk nt_aload (ok_aload_n (l := l) (B := B) (y := m_Mo_written) (pc := 0) (k := 0) rfl (zd_dr dc_Mo_written 0 rfl))) ?_
  refine zm_ac (om_pk nt_iload (ok_iload_n (l := l) (B := B) (y := m_Mo_written) (pc := 1) (k := 1) rfl (zd_dr dc_Mo_written 1 rfl))) ?_
  refine zm_ac (ok_mcalls (ok_calls (l := l) (B := B) (y := m_Mo_written) (pc := 2) hG cf_Mo_written_Mo_no rfl (List.mem_of_getElem? (i := 964) (by decide +kernel)) (List.mem_of_getElem? (i := 965) (by decide +kernel)) (List.mem_of_getElem? (i := 64) (by decide +kernel)) (zd_dr dc_Mo_written 2 rfl))) ?_
  refine zm_ac (om_pk nt_if_ne (ok_if_ne (l := l) (B := B) (y := m_Mo_written) (pc := 5) (zd_dr dc_Mo_written 3 rfl) (by decide))) ?_
  refine zm_ac (om_pk nt_iload (ok_iload_n (l := l) (B := B) (y := m_Mo_written) (pc := 8) (k := 2) rfl (zd_dr dc_Mo_written 4 rfl))) ?_
  refine zm_ac (om_pk nt_if_lt (ok_if_lt (l := l) (B := B) (y := m_Mo_written) (pc := 9) (zd_dr dc_Mo_written 5 rfl) (by decide))) ?_
  refine zm_ac (om_pk nt_iload (ok_iload_n (l := l) (B := B) (y := m_Mo_written) (pc := 12) (k := 2) rfl (zd_dr dc_Mo_written 6 rfl))) ?_
  refine zm_ac (om_pk nt_ci (ok_iconst (l := l) (B := B) (y := m_Mo_written) (pc := 13) (n := (2)) (zd_dr dc_Mo_written 7 rfl) rfl)) ?_
  refine zm_ac (om_pk nt_icmp_le (ok_icmp_le (l := l) (B := B) (y := m_Mo_written) (pc := 14) (zd_dr dc_Mo_written 8 rfl) (by decide))) ?_
  refine zm_ac (om_pk nt_ci (ok_iconst (l := l) (B := B) (y := m_Mo_written) (pc := 17) (n := (1)) (zd_dr dc_Mo_written 9 rfl) rfl)) ?_
  refine zm_ac (om_pk nt_goto (ok_goto (l := l) (B := B) (y := m_Mo_written) (pc := 18) (zd_dr dc_Mo_written 10 rfl) (by decide))) ?_
  refine zm_ac (om_pk nt_ci (ok_iconst (l := l) (B := B) (y := m_Mo_written) (pc := 21) (n := (0)) (zd_dr dc_Mo_written 11 rfl) rfl)) ?_
  refine zm_ac (ok_mputi rfl (ok_putf (l := l) (B := B) (y := m_Mo_written) (pc := 22) hG (C := zR8) (T := zT8) (N := 21) (ci := 8) (k := 0) rfl zl8 zt8 (by decide) (List.mem_of_getElem? (i := 882) (by decide +kernel)) rfl (zd_dr dc_Mo_written 12 rfl))) ?_
  refine zm_ac (om_pk nt_aload (ok_aload_n (l := l) (B := B) (y := m_Mo_written) (pc := 25) (k := 0) rfl (zd_dr dc_Mo_written 13 rfl))) ?_
  refine zm_ac (ok_mgetf rfl (ok_getf (l := l) (B := B) (y := m_Mo_written) (pc := 26) hG (C := zR8) (T := zT8) (N := 21) (ci := 8) (k := 0) rfl zl8 (by decide) (List.mem_of_getElem? (i := 882) (by decide +kernel)) (zd_dr dc_Mo_written 14 rfl))) ?_
  refine zm_ac (om_pk nt_if_le (ok_if_le (l := l) (B := B) (y := m_Mo_written) (pc := 29) (zd_dr dc_Mo_written 15 rfl) (by decide))) ?_
  refine zm_ac (om_pk nt_ci (ok_iconst (l := l) (B := B) (y := m_Mo_written) (pc := 32) (n := (0)) (zd_dr dc_Mo_written 16 rfl) rfl)) ?_
  refine zm_ac (ok_miret (ok_iret (l := l) (B := B) (y := m_Mo_written) (pc := 33) rfl (zd_dr dc_Mo_written 17 rfl))) ?_
  refine zm_ac (om_pk nt_aload (ok_aload_n (l := l) (B := B) (y := m_Mo_written) (pc := 34) (k := 0) rfl (zd_dr dc_Mo_written 18 rfl))) ?_
  refine zm_ac (om_pk nt_ci (ok_iconst (l := l) (B := B) (y := m_Mo_written) (pc := 35) (n := (0)) (zd_dr dc_Mo_written 19 rfl) rfl)) ?_
  refine zm_ac (ok_mputi rfl (ok_putf (l := l) (B := B) (y := m_Mo_written) (pc := 36) hG (C := zR8) (T := zT8) (N := 21) (ci := 8) (k := 19) rfl zl8 zt8 (by decide) (List.mem_of_getElem? (i := 901) (by decide +kernel)) rfl (zd_dr dc_Mo_written 20 rfl))) ?_
  refine zm_ac (om_pk nt_aload (ok_aload_n (l := l) (B := B) (y := m_Mo_written) (pc := 39) (k := 0) rfl (zd_dr dc_Mo_written 21 rfl))) ?_
  refine zm_ac (ok_mgetf rfl (ok_getf (l := l) (B := B) (y := m_Mo_written) (pc := 40) hG (C := zR8) (T := zT8) (N := 21) (ci := 8) (k := 5) rfl zl8 (by decide) (List.mem_of_getElem? (i := 887) (by decide +kernel)) (zd_dr dc_Mo_written 22 rfl))) ?_
  refine zm_ac (om_pk nt_iload (ok_iload_n (l := l) (B := B) (y := m_Mo_written) (pc := 43) (k := 1) rfl (zd_dr dc_Mo_written 23 rfl))) ?_
  refine zm_ac (ok_mbaload (ok_baload (l := l) (B := B) (y := m_Mo_written) (pc := 44) hG (zd_dr dc_Mo_written 24 rfl))) ?_
  refine zm_ac (om_pk nt_if_eq (ok_if_eq (l := l) (B := B) (y := m_Mo_written) (pc := 45) (zd_dr dc_Mo_written 25 rfl) (by decide))) ?_
  refine zm_ac (om_pk nt_aload (ok_aload_n (l := l) (B := B) (y := m_Mo_written) (pc := 48) (k := 0) rfl (zd_dr dc_Mo_written 26 rfl))) ?_
  refine zm_ac (om_pk nt_ci (ok_bipush (l := l) (B := B) (y := m_Mo_written) (pc := 49) (n := (45)) (zd_dr dc_Mo_written 27 rfl) rfl)) ?_
  refine zm_ac (ok_mcallv rfl (ok_callv (l := l) (B := B) (y := m_Mo_written) (pc := 51) hG (ci := 8) rfl cf_Mo_written_Mo_print rfl (List.mem_of_getElem? (i := 1144) (by decide +kernel)) (List.mem_of_getElem? (i := 1146) (by decide +kernel)) (List.mem_of_getElem? (i := 52) (by decide +kernel)) (zd_dr dc_Mo_written 28 rfl))) ?_
  refine zm_ac (om_pk nt_aload (ok_aload_n (l := l) (B := B) (y := m_Mo_written) (pc := 54) (k := 0) rfl (zd_dr dc_Mo_written 29 rfl))) ?_
  refine zm_ac (ok_mgetf rfl (ok_getf (l := l) (B := B) (y := m_Mo_written) (pc := 55) hG (C := zR8) (T := zT8) (N := 21) (ci := 8) (k := 4) rfl zl8 (by decide) (List.mem_of_getElem? (i := 886) (by decide +kernel)) (zd_dr dc_Mo_written 30 rfl))) ?_
  refine zm_ac (om_pk nt_iload (ok_iload_n (l := l) (B := B) (y := m_Mo_written) (pc := 58) (k := 1) rfl (zd_dr dc_Mo_written 31 rfl))) ?_
  refine zm_ac (ok_miaload (ok_iaload (l := l) (B := B) (y := m_Mo_written) (pc := 59) hG (zd_dr dc_Mo_written 32 rfl))) ?_
  refine zm_ac (om_pk nt_istore (ok_istore_n (l := l) (B := B) (y := m_Mo_written) (pc := 60) (k := 3) rfl (zd_dr dc_Mo_written 33 rfl) (by decide))) ?_
  refine zm_ac (om_pk nt_aload (ok_aload_n (l := l) (B := B) (y := m_Mo_written) (pc := 61) (k := 0) rfl (zd_dr dc_Mo_written 34 rfl))) ?_
  refine zm_ac (ok_mgetf rfl (ok_getf (l := l) (B := B) (y := m_Mo_written) (pc := 62) hG (C := zR8) (T := zT8) (N := 21) (ci := 8) (k := 6) rfl zl8 (by decide) (List.mem_of_getElem? (i := 888) (by decide +kernel)) (zd_dr dc_Mo_written 35 rfl))) ?_
  refine zm_ac (om_pk nt_iload (ok_iload_n (l := l) (B := B) (y := m_Mo_written) (pc := 65) (k := 1) rfl (zd_dr dc_Mo_written 36 rfl))) ?_
  refine zm_ac (ok_miaload (ok_iaload (l := l) (B := B) (y := m_Mo_written) (pc := 66) hG (zd_dr dc_Mo_written 37 rfl))) ?_
  refine zm_ac (om_pk nt_istore (ok_istore (l := l) (B := B) (y := m_Mo_written) (pc := 67) (zd_dr dc_Mo_written 38 rfl) (by decide))) ?_
  refine zm_ac (om_pk nt_iload (ok_iload_n (l := l) (B := B) (y := m_Mo_written) (pc := 69) (k := 3) rfl (zd_dr dc_Mo_written 39 rfl))) ?_
  refine zm_ac (om_pk nt_ci (ok_iconst (l := l) (B := B) (y := m_Mo_written) (pc := 70) (n := (1)) (zd_dr dc_Mo_written 40 rfl) rfl)) ?_
  refine zm_ac (om_pk nt_isub (ok_isub (l := l) (B := B) (y := m_Mo_written) (pc := 71) (zd_dr dc_Mo_written 41 rfl))) ?_
  refine zm_ac (om_pk nt_iload (ok_iload (l := l) (B := B) (y := m_Mo_written) (pc := 72) (zd_dr dc_Mo_written 42 rfl))) ?_
  refine zm_ac (om_pk nt_isub (ok_isub (l := l) (B := B) (y := m_Mo_written) (pc := 74) (zd_dr dc_Mo_written 43 rfl))) ?_
  refine zm_ac (om_pk nt_istore (ok_istore (l := l) (B := B) (y := m_Mo_written) (pc := 75) (zd_dr dc_Mo_written 44 rfl) (by decide))) ?_
  refine zm_ac (om_pk nt_iload (ok_iload_n (l := l) (B := B) (y := m_Mo_written) (pc := 77) (k := 2) rfl (zd_dr dc_Mo_written 45 rfl))) ?_
  refine zm_ac (om_pk nt_ci (ok_iconst (l := l) (B := B) (y := m_Mo_written) (pc := 78) (n := (1)) (zd_dr dc_Mo_written 46 rfl) rfl)) ?_
  refine zm_ac (om_pk nt_icmp_ne (ok_icmp_ne (l := l) (B := B) (y := m_Mo_written) (pc := 79) (zd_dr dc_Mo_written 47 rfl) (by decide))) ?_
  refine zm_ac (om_pk nt_iload (ok_iload (l := l) (B := B) (y := m_Mo_written) (pc := 82) (zd_dr dc_Mo_written 48 rfl))) ?_
  refine zm_ac (om_pk nt_if_gt (ok_if_gt (l := l) (B := B) (y := m_Mo_written) (pc := 84) (zd_dr dc_Mo_written 49 rfl) (by decide))) ?_
  refine zm_ac (om_pk nt_aload (ok_aload_n (l := l) (B := B) (y := m_Mo_written) (pc := 87) (k := 0) rfl (zd_dr dc_Mo_written 50 rfl))) ?_
  refine zm_ac (om_pk nt_iload (ok_iload_n (l := l) (B := B) (y := m_Mo_written) (pc := 88) (k := 1) rfl (zd_dr dc_Mo_written 51 rfl))) ?_
  refine zm_ac (om_pk nt_ci (ok_iconst (l := l) (B := B) (y := m_Mo_written) (pc := 89) (n := (0)) (zd_dr dc_Mo_written 52 rfl) rfl)) ?_
  refine zm_ac (om_pk nt_aload (ok_aload_n (l := l) (B := B) (y := m_Mo_written) (pc := 90) (k := 0) rfl (zd_dr dc_Mo_written 53 rfl))) ?_
  refine zm_ac (om_pk nt_iload (ok_iload_n (l := l) (B := B) (y := m_Mo_written) (pc := 91) (k := 1) rfl (zd_dr dc_Mo_written 54 rfl))) ?_
  refine zm_ac (ok_mcallv rfl (ok_callv (l := l) (B := B) (y := m_Mo_written) (pc := 92) hG (ci := 8) rfl cf_Mo_written_Mo_isZero rfl (List.mem_of_getElem? (i := 998) (by decide +kernel)) (List.mem_of_getElem? (i := 1000) (by decide +kernel)) (List.mem_of_getElem? (i := 31) (by decide +kernel)) (zd_dr dc_Mo_written 55 rfl))) ?_
  refine zm_ac (om_pk nt_if_eq (ok_if_eq (l := l) (B := B) (y := m_Mo_written) (pc := 95) (zd_dr dc_Mo_written 56 rfl) (by decide))) ?_
  refine zm_ac (om_pk nt_ci (ok_iconst (l := l) (B := B) (y := m_Mo_written) (pc := 98) (n := (1)) (zd_dr dc_Mo_written 57 rfl) rfl)) ?_
  refine zm_ac (om_pk nt_goto (ok_goto (l := l) (B := B) (y := m_Mo_written) (pc := 99) (zd_dr dc_Mo_written 58 rfl) (by decide))) ?_
  refine zm_ac (om_pk nt_iload (ok_iload_n (l := l) (B := B) (y := m_Mo_written) (pc := 102) (k := 3) rfl (zd_dr dc_Mo_written 59 rfl))) ?_
  refine zm_ac (om_pk nt_iload (ok_iload (l := l) (B := B) (y := m_Mo_written) (pc := 103) (zd_dr dc_Mo_written 60 rfl))) ?_
  refine zm_ac (om_pk nt_isub (ok_isub (l := l) (B := B) (y := m_Mo_written) (pc := 105) (zd_dr dc_Mo_written 61 rfl))) ?_
  refine zm_ac (om_pk nt_ci (ok_iconst (l := l) (B := B) (y := m_Mo_written) (pc := 106) (n := (-1)) (zd_dr dc_Mo_written 62 rfl) rfl)) ?_
  refine zm_ac (ok_mcallv rfl (ok_callv (l := l) (B := B) (y := m_Mo_written) (pc := 107) hG (ci := 8) rfl cf_Mo_written_Mo_figures rfl (List.mem_of_getElem? (i := 1148) (by decide +kernel)) (List.mem_of_getElem? (i := 1150) (by decide +kernel)) (List.mem_of_getElem? (i := 53) (by decide +kernel)) (zd_dr dc_Mo_written 63 rfl))) ?_
  refine zm_ac (om_pk nt_goto (ok_goto (l := l) (B := B) (y := m_Mo_written) (pc := 110) (zd_dr dc_Mo_written 64 rfl) (by decide))) ?_
  refine zm_ac (om_pk nt_iload (ok_iload (l := l) (B := B) (y := m_Mo_written) (pc := 113) (zd_dr dc_Mo_written 65 rfl))) ?_
  refine zm_ac (om_pk nt_if_lt (ok_if_lt (l := l) (B := B) (y := m_Mo_written) (pc := 115) (zd_dr dc_Mo_written 66 rfl) (by decide))) ?_
  refine zm_ac (om_pk nt_iload (ok_iload_n (l := l) (B := B) (y := m_Mo_written) (pc := 118) (k := 2) rfl (zd_dr dc_Mo_written 67 rfl))) ?_
  refine zm_ac (om_pk nt_ci (ok_iconst (l := l) (B := B) (y := m_Mo_written) (pc := 119) (n := (1)) (zd_dr dc_Mo_written 68 rfl) rfl)) ?_
  refine zm_ac (om_pk nt_icmp_eq (ok_icmp_eq (l := l) (B := B) (y := m_Mo_written) (pc := 120) (zd_dr dc_Mo_written 69 rfl) (by decide))) ?_
  refine zm_ac (om_pk nt_iload (ok_iload (l := l) (B := B) (y := m_Mo_written) (pc := 123) (zd_dr dc_Mo_written 70 rfl))) ?_
  refine zm_ac (om_pk nt_ci (ok_bipush (l := l) (B := B) (y := m_Mo_written) (pc := 125) (n := (-6)) (zd_dr dc_Mo_written 71 rfl) rfl)) ?_
  refine zm_ac (om_pk nt_icmp_lt (ok_icmp_lt (l := l) (B := B) (y := m_Mo_written) (pc := 127) (zd_dr dc_Mo_written 72 rfl) (by decide))) ?_
  refine zm_ac (om_pk nt_aload (ok_aload_n (l := l) (B := B) (y := m_Mo_written) (pc := 130) (k := 0) rfl (zd_dr dc_Mo_written 73 rfl))) ?_
  refine zm_ac (om_pk nt_iload (ok_iload_n (l := l) (B := B) (y := m_Mo_written) (pc := 131) (k := 1) rfl (zd_dr dc_Mo_written 74 rfl))) ?_
  refine zm_ac (om_pk nt_iload (ok_iload_n (l := l) (B := B) (y := m_Mo_written) (pc := 132) (k := 3) rfl (zd_dr dc_Mo_written 75 rfl))) ?_
  refine zm_ac (om_pk nt_iload (ok_iload (l := l) (B := B) (y := m_Mo_written) (pc := 133) (zd_dr dc_Mo_written 76 rfl))) ?_
  refine zm_ac (om_pk nt_isub (ok_isub (l := l) (B := B) (y := m_Mo_written) (pc := 135) (zd_dr dc_Mo_written 77 rfl))) ?_
  refine zm_ac (om_pk nt_ci (ok_iconst (l := l) (B := B) (y := m_Mo_written) (pc := 136) (n := (1)) (zd_dr dc_Mo_written 78 rfl) rfl)) ?_
  refine zm_ac (om_pk nt_icmp_ge (ok_icmp_ge (l := l) (B := B) (y := m_Mo_written) (pc := 137) (zd_dr dc_Mo_written 79 rfl) (by decide))) ?_
  refine zm_ac (om_pk nt_iload (ok_iload_n (l := l) (B := B) (y := m_Mo_written) (pc := 140) (k := 3) rfl (zd_dr dc_Mo_written 80 rfl))) ?_
  refine zm_ac (om_pk nt_iload (ok_iload (l := l) (B := B) (y := m_Mo_written) (pc := 141) (zd_dr dc_Mo_written 81 rfl))) ?_
  refine zm_ac (om_pk nt_isub (ok_isub (l := l) (B := B) (y := m_Mo_written) (pc := 143) (zd_dr dc_Mo_written 82 rfl))) ?_
  refine zm_ac (om_pk nt_ci (ok_iconst (l := l) (B := B) (y := m_Mo_written) (pc := 144) (n := (1)) (zd_dr dc_Mo_written 83 rfl) rfl)) ?_
  refine zm_ac (om_pk nt_isub (ok_isub (l := l) (B := B) (y := m_Mo_written) (pc := 145) (zd_dr dc_Mo_written 84 rfl))) ?_
  refine zm_ac (om_pk nt_goto (ok_goto (l := l) (B := B) (y := m_Mo_written) (pc := 146) (zd_dr dc_Mo_written 85 rfl) (by decide))) ?_
  refine zm_ac (om_pk nt_ci (ok_iconst (l := l) (B := B) (y := m_Mo_written) (pc := 149) (n := (0)) (zd_dr dc_Mo_written 86 rfl) rfl)) ?_
  refine zm_ac (om_pk nt_iload (ok_iload_n (l := l) (B := B) (y := m_Mo_written) (pc := 150) (k := 3) rfl (zd_dr dc_Mo_written 87 rfl))) ?_
  refine zm_ac (om_pk nt_iload (ok_iload (l := l) (B := B) (y := m_Mo_written) (pc := 151) (zd_dr dc_Mo_written 88 rfl))) ?_
  refine zm_ac (om_pk nt_if_ne (ok_if_ne (l := l) (B := B) (y := m_Mo_written) (pc := 153) (zd_dr dc_Mo_written 89 rfl) (by decide))) ?_
  refine zm_ac (om_pk nt_ci (ok_iconst (l := l) (B := B) (y := m_Mo_written) (pc := 156) (n := (-1)) (zd_dr dc_Mo_written 90 rfl) rfl)) ?_
  refine zm_ac (om_pk nt_goto (ok_goto (l := l) (B := B) (y := m_Mo_written) (pc := 157) (zd_dr dc_Mo_written 91 rfl) (by decide))) ?_
  refine zm_ac (om_pk nt_iload (ok_iload_n (l := l) (B := B) (y := m_Mo_written) (pc := 160) (k := 3) rfl (zd_dr dc_Mo_written 92 rfl))) ?_
  refine zm_ac (om_pk nt_iload (ok_iload (l := l) (B := B) (y := m_Mo_written) (pc := 161) (zd_dr dc_Mo_written 93 rfl))) ?_
  refine zm_ac (om_pk nt_isub (ok_isub (l := l) (B := B) (y := m_Mo_written) (pc := 163) (zd_dr dc_Mo_written 94 rfl))) ?_
  refine zm_ac (ok_mcallv rfl (ok_callv (l := l) (B := B) (y := m_Mo_written) (pc := 164) hG (ci := 8) rfl cf_Mo_written_Mo_figures rfl (List.mem_of_getElem? (i := 1148) (by decide +kernel)) (List.mem_of_getElem? (i := 1150) (by decide +kernel)) (List.mem_of_getElem? (i := 53) (by decide +kernel)) (zd_dr dc_Mo_written 95 rfl))) ?_
  refine zm_ac (om_pk nt_goto (ok_goto (l := l) (B := B) (y := m_Mo_written) (pc := 167) (zd_dr dc_Mo_written 96 rfl) (by decide))) ?_
  refine zm_ac (om_pk nt_iload (ok_iload_n (l := l) (B := B) (y := m_Mo_written) (pc := 170) (k := 2) rfl (zd_dr dc_Mo_written 97 rfl))) ?_
  refine zm_ac (om_pk nt_if_ne (ok_if_ne (l := l) (B := B) (y := m_Mo_written) (pc := 171) (zd_dr dc_Mo_written 98 rfl) (by decide))) ?_
  refine zm_ac (om_pk nt_aload (ok_aload_n (l := l) (B := B) (y := m_Mo_written) (pc := 174) (k := 0) rfl (zd_dr dc_Mo_written 99 rfl))) ?_
  refine zm_ac (om_pk nt_iload (ok_iload_n (l := l) (B := B) (y := m_Mo_written) (pc := 175) (k := 1) rfl (zd_dr dc_Mo_written 100 rfl))) ?_
  refine zm_ac (om_pk nt_ci (ok_iconst (l := l) (B := B) (y := m_Mo_written) (pc := 176) (n := (0)) (zd_dr dc_Mo_written 101 rfl) rfl)) ?_
  refine zm_ac (om_pk nt_iload (ok_iload_n (l := l) (B := B) (y := m_Mo_written) (pc := 177) (k := 3) rfl (zd_dr dc_Mo_written 102 rfl))) ?_
  refine zm_ac (om_pk nt_ci (ok_iconst (l := l) (B := B) (y := m_Mo_written) (pc := 178) (n := (1)) (zd_dr dc_Mo_written 103 rfl) rfl)) ?_
  refine zm_ac (ok_mcallv rfl (ok_callv (l := l) (B := B) (y := m_Mo_written) (pc := 179) hG (ci := 8) rfl cf_Mo_written_Mo_figures rfl (List.mem_of_getElem? (i := 1148) (by decide +kernel)) (List.mem_of_getElem? (i := 1150) (by decide +kernel)) (List.mem_of_getElem? (i := 53) (by decide +kernel)) (zd_dr dc_Mo_written 104 rfl))) ?_
  refine zm_ac (om_pk nt_aload (ok_aload_n (l := l) (B := B) (y := m_Mo_written) (pc := 182) (k := 0) rfl (zd_dr dc_Mo_written 105 rfl))) ?_
  refine zm_ac (om_pk nt_iload (ok_iload (l := l) (B := B) (y := m_Mo_written) (pc := 183) (zd_dr dc_Mo_written 106 rfl))) ?_
  refine zm_ac (ok_mcallv rfl (ok_callv (l := l) (B := B) (y := m_Mo_written) (pc := 185) hG (ci := 8) rfl cf_Mo_written_Mo_exponent rfl (List.mem_of_getElem? (i := 1152) (by decide +kernel)) (List.mem_of_getElem? (i := 1154) (by decide +kernel)) (List.mem_of_getElem? (i := 54) (by decide +kernel)) (zd_dr dc_Mo_written 107 rfl))) ?_
  refine zm_ac (om_pk nt_goto (ok_goto (l := l) (B := B) (y := m_Mo_written) (pc := 188) (zd_dr dc_Mo_written 108 rfl) (by decide))) ?_
  refine zm_ac (om_pk nt_aload (ok_aload_n (l := l) (B := B) (y := m_Mo_written) (pc := 191) (k := 0) rfl (zd_dr dc_Mo_written 109 rfl))) ?_
  refine zm_ac (om_pk nt_iload (ok_iload_n (l := l) (B := B) (y := m_Mo_written) (pc := 192) (k := 1) rfl (zd_dr dc_Mo_written 110 rfl))) ?_
  refine zm_ac (ok_mcallv rfl (ok_callv (l := l) (B := B) (y := m_Mo_written) (pc := 193) hG (ci := 8) rfl cf_Mo_written_Mo_isZero rfl (List.mem_of_getElem? (i := 998) (by decide +kernel)) (List.mem_of_getElem? (i := 1000) (by decide +kernel)) (List.mem_of_getElem? (i := 31) (by decide +kernel)) (zd_dr dc_Mo_written 111 rfl))) ?_
  refine zm_ac (om_pk nt_if_eq (ok_if_eq (l := l) (B := B) (y := m_Mo_written) (pc := 196) (zd_dr dc_Mo_written 112 rfl) (by decide))) ?_
  refine zm_ac (om_pk nt_iload (ok_iload (l := l) (B := B) (y := m_Mo_written) (pc := 199) (zd_dr dc_Mo_written 113 rfl))) ?_
  refine zm_ac (om_pk nt_ineg (ok_ineg (l := l) (B := B) (y := m_Mo_written) (pc := 201) (zd_dr dc_Mo_written 114 rfl))) ?_
  refine zm_ac (ok_mcalls (ok_calls (l := l) (B := B) (y := m_Mo_written) (pc := 202) hG cf_Mo_written_Mo_down3 rfl (List.mem_of_getElem? (i := 1156) (by decide +kernel)) (List.mem_of_getElem? (i := 1157) (by decide +kernel)) (List.mem_of_getElem? (i := 64) (by decide +kernel)) (zd_dr dc_Mo_written 115 rfl))) ?_
  refine zm_ac (om_pk nt_ineg (ok_ineg (l := l) (B := B) (y := m_Mo_written) (pc := 205) (zd_dr dc_Mo_written 116 rfl))) ?_
  refine zm_ac (om_pk nt_istore (ok_istore (l := l) (B := B) (y := m_Mo_written) (pc := 206) (zd_dr dc_Mo_written 117 rfl) (by decide))) ?_
  refine zm_ac (om_pk nt_aload (ok_aload_n (l := l) (B := B) (y := m_Mo_written) (pc := 208) (k := 0) rfl (zd_dr dc_Mo_written 118 rfl))) ?_
  refine zm_ac (om_pk nt_iload (ok_iload_n (l := l) (B := B) (y := m_Mo_written) (pc := 209) (k := 1) rfl (zd_dr dc_Mo_written 119 rfl))) ?_
  refine zm_ac (om_pk nt_ci (ok_iconst (l := l) (B := B) (y := m_Mo_written) (pc := 210) (n := (0)) (zd_dr dc_Mo_written 120 rfl) rfl)) ?_
  refine zm_ac (om_pk nt_ci (ok_iconst (l := l) (B := B) (y := m_Mo_written) (pc := 211) (n := (1)) (zd_dr dc_Mo_written 121 rfl) rfl)) ?_
  refine zm_ac (om_pk nt_iload (ok_iload (l := l) (B := B) (y := m_Mo_written) (pc := 212) (zd_dr dc_Mo_written 122 rfl))) ?_
  refine zm_ac (om_pk nt_iadd (ok_iadd (l := l) (B := B) (y := m_Mo_written) (pc := 214) (zd_dr dc_Mo_written 123 rfl))) ?_
  refine zm_ac (om_pk nt_iload (ok_iload (l := l) (B := B) (y := m_Mo_written) (pc := 215) (zd_dr dc_Mo_written 124 rfl))) ?_
  refine zm_ac (om_pk nt_isub (ok_isub (l := l) (B := B) (y := m_Mo_written) (pc := 217) (zd_dr dc_Mo_written 125 rfl))) ?_
  refine zm_ac (om_pk nt_ci (ok_iconst (l := l) (B := B) (y := m_Mo_written) (pc := 218) (n := (1)) (zd_dr dc_Mo_written 126 rfl) rfl)) ?_
  refine zm_ac (ok_mcallv rfl (ok_callv (l := l) (B := B) (y := m_Mo_written) (pc := 219) hG (ci := 8) rfl cf_Mo_written_Mo_figures rfl (List.mem_of_getElem? (i := 1148) (by decide +kernel)) (List.mem_of_getElem? (i := 1150) (by decide +kernel)) (List.mem_of_getElem? (i := 53) (by decide +kernel)) (zd_dr dc_Mo_written 127 rfl))) ?_
  refine zm_ac (om_pk nt_iload (ok_iload (l := l) (B := B) (y := m_Mo_written) (pc := 222) (zd_dr dc_Mo_written 128 rfl))) ?_
  refine zm_ac (om_pk nt_if_eq (ok_if_eq (l := l) (B := B) (y := m_Mo_written) (pc := 224) (zd_dr dc_Mo_written 129 rfl) (by decide))) ?_
  refine zm_ac (om_pk nt_aload (ok_aload_n (l := l) (B := B) (y := m_Mo_written) (pc := 227) (k := 0) rfl (zd_dr dc_Mo_written 130 rfl))) ?_
  refine zm_ac (om_pk nt_iload (ok_iload (l := l) (B := B) (y := m_Mo_written) (pc := 228) (zd_dr dc_Mo_written 131 rfl))) ?_
  refine zm_ac (ok_mcallv rfl (ok_callv (l := l) (B := B) (y := m_Mo_written) (pc := 230) hG (ci := 8) rfl cf_Mo_written_Mo_exponent rfl (List.mem_of_getElem? (i := 1152) (by decide +kernel)) (List.mem_of_getElem? (i := 1154) (by decide +kernel)) (List.mem_of_getElem? (i := 54) (by decide +kernel)) (zd_dr dc_Mo_written 132 rfl))) ?_
  refine zm_ac (om_pk nt_goto (ok_goto (l := l) (B := B) (y := m_Mo_written) (pc := 233) (zd_dr dc_Mo_written 133 rfl) (by decide))) ?_
  refine zm_ac (om_pk nt_iload (ok_iload (l := l) (B := B) (y := m_Mo_written) (pc := 236) (zd_dr dc_Mo_written 134 rfl))) ?_
  refine zm_ac (ok_mcalls (ok_calls (l := l) (B := B) (y := m_Mo_written) (pc := 238) hG cf_Mo_written_Mo_down3 rfl (List.mem_of_getElem? (i := 1156) (by decide +kernel)) (List.mem_of_getElem? (i := 1157) (by decide +kernel)) (List.mem_of_getElem? (i := 64) (by decide +kernel)) (zd_dr dc_Mo_written 135 rfl))) ?_
  refine zm_ac (om_pk nt_istore (ok_istore (l := l) (B := B) (y := m_Mo_written) (pc := 241) (zd_dr dc_Mo_written 136 rfl) (by decide))) ?_
  refine zm_ac (om_pk nt_aload (ok_aload_n (l := l) (B := B) (y := m_Mo_written) (pc := 243) (k := 0) rfl (zd_dr dc_Mo_written 137 rfl))) ?_
  refine zm_ac (om_pk nt_iload (ok_iload_n (l := l) (B := B) (y := m_Mo_written) (pc := 244) (k := 1) rfl (zd_dr dc_Mo_written 138 rfl))) ?_
  refine zm_ac (om_pk nt_ci (ok_iconst (l := l) (B := B) (y := m_Mo_written) (pc := 245) (n := (0)) (zd_dr dc_Mo_written 139 rfl) rfl)) ?_
  refine zm_ac (om_pk nt_iload (ok_iload_n (l := l) (B := B) (y := m_Mo_written) (pc := 246) (k := 3) rfl (zd_dr dc_Mo_written 140 rfl))) ?_
  refine zm_ac (om_pk nt_iload (ok_iload (l := l) (B := B) (y := m_Mo_written) (pc := 247) (zd_dr dc_Mo_written 141 rfl))) ?_
  refine zm_ac (om_pk nt_iload (ok_iload (l := l) (B := B) (y := m_Mo_written) (pc := 249) (zd_dr dc_Mo_written 142 rfl))) ?_
  refine zm_ac (om_pk nt_isub (ok_isub (l := l) (B := B) (y := m_Mo_written) (pc := 251) (zd_dr dc_Mo_written 143 rfl))) ?_
  refine zm_ac (om_pk nt_ci (ok_iconst (l := l) (B := B) (y := m_Mo_written) (pc := 252) (n := (1)) (zd_dr dc_Mo_written 144 rfl) rfl)) ?_
  refine zm_ac (om_pk nt_iadd (ok_iadd (l := l) (B := B) (y := m_Mo_written) (pc := 253) (zd_dr dc_Mo_written 145 rfl))) ?_
  refine zm_ac (om_pk nt_icmp_le (ok_icmp_le (l := l) (B := B) (y := m_Mo_written) (pc := 254) (zd_dr dc_Mo_written 146 rfl) (by decide))) ?_
  refine zm_ac (om_pk nt_iload (ok_iload_n (l := l) (B := B) (y := m_Mo_written) (pc := 257) (k := 3) rfl (zd_dr dc_Mo_written 147 rfl))) ?_
  refine zm_ac (om_pk nt_goto (ok_goto (l := l) (B := B) (y := m_Mo_written) (pc := 258) (zd_dr dc_Mo_written 148 rfl) (by decide))) ?_
  refine zm_ac (om_pk nt_iload (ok_iload (l := l) (B := B) (y := m_Mo_written) (pc := 261) (zd_dr dc_Mo_written 149 rfl))) ?_
  refine zm_ac (om_pk nt_iload (ok_iload (l := l) (B := B) (y := m_Mo_written) (pc := 263) (zd_dr dc_Mo_written 150 rfl))) ?_
  refine zm_ac (om_pk nt_isub (ok_isub (l := l) (B := B) (y := m_Mo_written) (pc := 265) (zd_dr dc_Mo_written 151 rfl))) ?_
  refine zm_ac (om_pk nt_ci (ok_iconst (l := l) (B := B) (y := m_Mo_written) (pc := 266) (n := (1)) (zd_dr dc_Mo_written 152 rfl) rfl)) ?_
  refine zm_ac (om_pk nt_iadd (ok_iadd (l := l) (B := B) (y := m_Mo_written) (pc := 267) (zd_dr dc_Mo_written 153 rfl))) ?_
  refine zm_ac (om_pk nt_iload (ok_iload (l := l) (B := B) (y := m_Mo_written) (pc := 268) (zd_dr dc_Mo_written 154 rfl))) ?_
  refine zm_ac (om_pk nt_iload (ok_iload (l := l) (B := B) (y := m_Mo_written) (pc := 270) (zd_dr dc_Mo_written 155 rfl))) ?_
  refine zm_ac (om_pk nt_isub (ok_isub (l := l) (B := B) (y := m_Mo_written) (pc := 272) (zd_dr dc_Mo_written 156 rfl))) ?_
  refine zm_ac (om_pk nt_ci (ok_iconst (l := l) (B := B) (y := m_Mo_written) (pc := 273) (n := (1)) (zd_dr dc_Mo_written 157 rfl) rfl)) ?_
  refine zm_ac (om_pk nt_iadd (ok_iadd (l := l) (B := B) (y := m_Mo_written) (pc := 274) (zd_dr dc_Mo_written 158 rfl))) ?_
  refine zm_ac (ok_mcallv rfl (ok_callv (l := l) (B := B) (y := m_Mo_written) (pc := 275) hG (ci := 8) rfl cf_Mo_written_Mo_figures rfl (List.mem_of_getElem? (i := 1148) (by decide +kernel)) (List.mem_of_getElem? (i := 1150) (by decide +kernel)) (List.mem_of_getElem? (i := 53) (by decide +kernel)) (zd_dr dc_Mo_written 159 rfl))) ?_
  refine zm_ac (om_pk nt_iload (ok_iload (l := l) (B := B) (y := m_Mo_written) (pc := 278) (zd_dr dc_Mo_written 160 rfl))) ?_
  refine zm_ac (om_pk nt_if_eq (ok_if_eq (l := l) (B := B) (y := m_Mo_written) (pc := 280) (zd_dr dc_Mo_written 161 rfl) (by decide))) ?_
  refine zm_ac (om_pk nt_aload (ok_aload_n (l := l) (B := B) (y := m_Mo_written) (pc := 283) (k := 0) rfl (zd_dr dc_Mo_written 162 rfl))) ?_
  refine zm_ac (om_pk nt_iload (ok_iload (l := l) (B := B) (y := m_Mo_written) (pc := 284) (zd_dr dc_Mo_written 163 rfl))) ?_
  refine zm_ac (ok_mcallv rfl (ok_callv (l := l) (B := B) (y := m_Mo_written) (pc := 286) hG (ci := 8) rfl cf_Mo_written_Mo_exponent rfl (List.mem_of_getElem? (i := 1152) (by decide +kernel)) (List.mem_of_getElem? (i := 1154) (by decide +kernel)) (List.mem_of_getElem? (i := 54) (by decide +kernel)) (zd_dr dc_Mo_written 164 rfl))) ?_
  refine zm_ac (om_pk nt_aload (ok_aload_n (l := l) (B := B) (y := m_Mo_written) (pc := 289) (k := 0) rfl (zd_dr dc_Mo_written 165 rfl))) ?_
  refine zm_ac (ok_mgetf rfl (ok_getf (l := l) (B := B) (y := m_Mo_written) (pc := 290) hG (C := zR8) (T := zT8) (N := 21) (ci := 8) (k := 19) rfl zl8 (by decide) (List.mem_of_getElem? (i := 901) (by decide +kernel)) (zd_dr dc_Mo_written 166 rfl))) ?_
  refine zm_ac (ok_miret (ok_iret (l := l) (B := B) (y := m_Mo_written) (pc := 293) rfl (zd_dr dc_Mo_written 167 rfl))) ?_
  exact zm_an
def dl_Mo_character : List (Nat × Instr × Nat) := [(0, .aload_n 0, 1), (1, .iconst (0), 1), (2, .putfield 41, 3), (5, .iload_n 1, 1), (6, .ifCond .lt (11), 3), (9, .iload_n 1, 1), (10, .aload_n 0, 1), (11, .getfield 186, 3), (14, .if_icmp .lt (7), 3), (17, .iconst (-1), 1), (18, .goto (9), 3), (21, .aload_n 0, 1), (22, .getfield 38, 3), (25, .iload_n 1, 1), (26, .iaload, 1), (27, .ireturn, 1)]
theorem dc_Mo_character : ∀ q ∈ dl_Mo_character, decode (zd_yb m_Mo_character) q.1 = .ok q.2 := by decide +kernel
def cm_Mo_character (l : Launch) (B : zd_B) : List (Nat × zm_S) := [(0, om_p (oc_aload 0 1)), (1, om_p (oc_ci (0) 2)), (2, om_puti gM 0 5), (5, om_p (oc_iload 1 6)), (6, om_p (oc_if_lt 17 9)), (9, om_p (oc_iload 1 10)), (10, om_p (oc_aload 0 11)), (11, om_getf gM 19 14), (14, om_p (oc_icmp_lt 21 17)), (17, om_p (oc_ci (-1) 18)), (18, om_p (oc_goto 27)), (21, om_p (oc_aload 0 22)), (22, om_getf gM 18 25), (25, om_p (oc_iload 1 26)), (26, om_ald gM 0 27), (27, om_iret)]
set_option maxRecDepth 20000 in
theorem okm_Mo_character {l : Launch} {B : zd_B} (hG : zd_G B) (hl : l.stackTraces = false) : ∀ q ∈ cm_Mo_character l B, zm_ok l B gM m_Mo_character q.1 q.2 := by
  unfold cm_Mo_character
  refine zm_ac (om_pk nt_aload (ok_aload_n (l := l) (B := B) (y := m_Mo_character) (pc := 0) (k := 0) rfl (zd_dr dc_Mo_character 0 rfl))) ?_
  refine zm_ac (om_pk nt_ci (ok_iconst (l := l) (B := B) (y := m_Mo_character) (pc := 1) (n := (0)) (zd_dr dc_Mo_character 1 rfl) rfl)) ?_
  refine zm_ac (ok_mputi rfl (ok_putf (l := l) (B := B) (y := m_Mo_character) (pc := 2) hG (C := zR8) (T := zT8) (N := 21) (ci := 8) (k := 0) rfl zl8 zt8 (by decide) (List.mem_of_getElem? (i := 882) (by decide +kernel)) rfl (zd_dr dc_Mo_character 2 rfl))) ?_
  refine zm_ac (om_pk nt_iload (ok_iload_n (l := l) (B := B) (y := m_Mo_character) (pc := 5) (k := 1) rfl (zd_dr dc_Mo_character 3 rfl))) ?_
  refine zm_ac (om_pk nt_if_lt (ok_if_lt (l := l) (B := B) (y := m_Mo_character) (pc := 6) (zd_dr dc_Mo_character 4 rfl) (by decide))) ?_
  refine zm_ac (om_pk nt_iload (ok_iload_n (l := l) (B := B) (y := m_Mo_character) (pc := 9) (k := 1) rfl (zd_dr dc_Mo_character 5 rfl))) ?_
  refine zm_ac (om_pk nt_aload (ok_aload_n (l := l) (B := B) (y := m_Mo_character) (pc := 10) (k := 0) rfl (zd_dr dc_Mo_character 6 rfl))) ?_
  refine zm_ac (ok_mgetf rfl (ok_getf (l := l) (B := B) (y := m_Mo_character) (pc := 11) hG (C := zR8) (T := zT8) (N := 21) (ci := 8) (k := 19) rfl zl8 (by decide) (List.mem_of_getElem? (i := 901) (by decide +kernel)) (zd_dr dc_Mo_character 7 rfl))) ?_
  refine zm_ac (om_pk nt_icmp_lt (ok_icmp_lt (l := l) (B := B) (y := m_Mo_character) (pc := 14) (zd_dr dc_Mo_character 8 rfl) (by decide))) ?_
  refine zm_ac (om_pk nt_ci (ok_iconst (l := l) (B := B) (y := m_Mo_character) (pc := 17) (n := (-1)) (zd_dr dc_Mo_character 9 rfl) rfl)) ?_
  refine zm_ac (om_pk nt_goto (ok_goto (l := l) (B := B) (y := m_Mo_character) (pc := 18) (zd_dr dc_Mo_character 10 rfl) (by decide))) ?_
  refine zm_ac (om_pk nt_aload (ok_aload_n (l := l) (B := B) (y := m_Mo_character) (pc := 21) (k := 0) rfl (zd_dr dc_Mo_character 11 rfl))) ?_
  refine zm_ac (ok_mgetf rfl (ok_getf (l := l) (B := B) (y := m_Mo_character) (pc := 22) hG (C := zR8) (T := zT8) (N := 21) (ci := 8) (k := 18) rfl zl8 (by decide) (List.mem_of_getElem? (i := 900) (by decide +kernel)) (zd_dr dc_Mo_character 12 rfl))) ?_
  refine zm_ac (om_pk nt_iload (ok_iload_n (l := l) (B := B) (y := m_Mo_character) (pc := 25) (k := 1) rfl (zd_dr dc_Mo_character 13 rfl))) ?_
  refine zm_ac (ok_miaload (ok_iaload (l := l) (B := B) (y := m_Mo_character) (pc := 26) hG (zd_dr dc_Mo_character 14 rfl))) ?_
  refine zm_ac (ok_miret (ok_iret (l := l) (B := B) (y := m_Mo_character) (pc := 27) rfl (zd_dr dc_Mo_character 15 rfl))) ?_
  exact zm_an

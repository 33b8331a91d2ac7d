/-! written by gencode.py: code of Draft -/
def gD : zg := (32, 3, [(1, 1100)])
theorem cf_Dr_append_Dr_byteAt : zd_cf m_Dr_append m_Dr_byteAt 2 := ⟨(List.mem_of_getElem? (i := 269) (by decide +kernel)), by decide +kernel, by decide, by decide, ⟨by decide, by decide⟩, by decide +kernel⟩
theorem cf_Dr_isNumberText_Dr_behindSign : zd_cf m_Dr_isNumberText m_Dr_behindSign 1 := ⟨(List.mem_of_getElem? (i := 376) (by decide +kernel)), by decide +kernel, by decide, by decide, ⟨by decide, by decide⟩, by decide +kernel⟩
theorem cf_Dr_isNumberText_Dr_scanDigits : zd_cf m_Dr_isNumberText m_Dr_scanDigits 0 := ⟨(List.mem_of_getElem? (i := 380) (by decide +kernel)), by decide +kernel, by decide, by decide, ⟨by decide, by decide⟩, by decide +kernel⟩
theorem cf_Dr_isNumberText_Dr_scanExponent : zd_cf m_Dr_isNumberText m_Dr_scanExponent 0 := ⟨(List.mem_of_getElem? (i := 387) (by decide +kernel)), by decide +kernel, by decide, by decide, ⟨by decide, by decide⟩, by decide +kernel⟩
theorem cf_Dr_scanDigits_Dr_isDigit : zd_cf m_Dr_scanDigits m_Dr_isDigit 1 := ⟨(List.mem_of_getElem? (i := 383) (by decide +kernel)), by decide +kernel, by decide, by decide, ⟨by decide, by decide⟩, by decide +kernel⟩
theorem cf_Dr_scanExponent_Dr_behindSign : zd_cf m_Dr_scanExponent m_Dr_behindSign 1 := ⟨(List.mem_of_getElem? (i := 376) (by decide +kernel)), by decide +kernel, by decide, by decide, ⟨by decide, by decide⟩, by decide +kernel⟩
theorem cf_Dr_scanExponent_Dr_isDigit : zd_cf m_Dr_scanExponent m_Dr_isDigit 1 := ⟨(List.mem_of_getElem? (i := 383) (by decide +kernel)), by decide +kernel, by decide, by decide, ⟨by decide, by decide⟩, by decide +kernel⟩
def dl_Dr_append : List (Nat × Instr × Nat) := [(0, .iconst (0), 1), (1, .istore_n 3, 1), (2, .iconst (0), 1), (3, .istore 4, 2), (5, .iload 4, 2), (7, .bipush (8), 2), (9, .if_icmp .ge (26), 3), (12, .iload_n 3, 1), (13, .lload_n 1, 1), (14, .iload 4, 2), (16, .invokestatic 15, 3), (19, .ifCond .eq (7), 3), (22, .iconst (1), 1), (23, .goto (4), 3), (26, .iconst (0), 1), (27, .iadd, 1), (28, .istore_n 3, 1), (29, .iinc 4 (1), 3), (32, .goto (-27), 3), (35, .aload_n 0, 1), (36, .getfield 19, 3), (39, .iload_n 3, 1), (40, .iadd, 1), (41, .sipush (1100), 3), (44, .if_icmp .le (5), 3), (47, .iconst (-1), 1), (48, .ireturn, 1), (49, .iconst (0), 1), (50, .istore 4, 2), (52, .iload 4, 2), (54, .bipush (8), 2), (56, .if_icmp .ge (43), 3), (59, .lload_n 1, 1), (60, .iload 4, 2), (62, .invokestatic 15, 3), (65, .istore 5, 2), (67, .iload 5, 2), (69, .ifCond .eq (24), 3), (72, .aload_n 0, 1), (73, .getfield 9, 3), (76, .aload_n 0, 1), (77, .getfield 19, 3), (80, .iload 5, 2), (82, .castore, 1), (83, .aload_n 0, 1), (84, .dup, 1), (85, .getfield 19, 3), (88, .iconst (1), 1), (89, .iadd, 1), (90, .putfield 19, 3), (93, .iinc 4 (1), 3), (96, .goto (-44), 3), (99, .aload_n 0, 1), (100, .getfield 19, 3), (103, .ireturn, 1)]
theorem dc_Dr_append : ∀ q ∈ dl_Dr_append, decode (zd_yb m_Dr_append) q.1 = .ok q.2 := by decide +kernel
def cm_Dr_append (l : Launch) (B : zd_B) : List (Nat × zm_S) := [(0, om_p (oc_ci (0) 1)), (1, om_p (oc_istore 3 2)), (2, om_p (oc_ci (0) 3)), (3, om_p (oc_istore 4 5)), (5, om_p (oc_iload 4 7)), (7, om_p (oc_ci (8) 9)), (9, om_p (oc_icmp_ge 35 12)), (12, om_p (oc_iload 3 13)), (13, om_p (oc_lload 1 14)), (14, om_p (oc_iload 4 16)), (16, om_calls l B gD m_Dr_byteAt 2 19), (19, om_p (oc_if_eq 26 22)), (22, om_p (oc_ci (1) 23)), (23, om_p (oc_goto 27)), (26, om_p (oc_ci (0) 27)), (27, om_p (oc_iadd 28)), (28, om_p (oc_istore 3 29)), (29, om_p (oc_iinc 4 (1) 32)), (32, om_p (oc_goto 5)), (35, om_p (oc_aload 0 36)), (36, om_getf gD 1 39), (39, om_p (oc_iload 3 40)), (40, om_p (oc_iadd 41)), (41, om_p (oc_ci (1100) 44)), (44, om_p (oc_icmp_le 49 47)), (47, om_p (oc_ci (-1) 48)), (48, om_iret), (49, om_p (oc_ci (0) 50)), (50, om_p (oc_istore 4 52)), (52, om_p (oc_iload 4 54)), (54, om_p (oc_ci (8) 56)), (56, om_p (oc_icmp_ge 99 59)), (59, om_p (oc_lload 1 60)), (60, om_p (oc_iload 4 62)), (62, om_calls l B gD m_Dr_byteAt 2 65), (65, om_p (oc_istore 5 67)), (67, om_p (oc_iload 5 69)), (69, om_p (oc_if_eq 93 72)), (72, om_p (oc_aload 0 73)), (73, om_getf gD 0 76), (76, om_p (oc_aload 0 77)), (77, om_getf gD 1 80), (80, om_p (oc_iload 5 82)), (82, om_ast gD 1 cs_c 83), (83, om_p (oc_aload 0 84)), (84, om_p (oc_dup 85)), (85, om_getf gD 1 88), (88, om_p (oc_ci (1) 89)), (89, om_p (oc_iadd 90)), (90, om_puti gD 1 93), (93, om_p (oc_iinc 4 (1) 96)), (96, om_p (oc_goto 52)), (99, om_p (oc_aload 0 100)), (100, om_getf gD 1 103), (103, om_iret)]
set_option maxRecDepth 20000 in
theorem okm_Dr_append {l : Launch} {B : zd_B} (hG : zd_G B) (hl : l.stackTraces = false) : ∀ q ∈ cm_Dr_append l B, zm_ok l B gD m_Dr_append q.1 q.2 := by
  unfold cm_Dr_append
  refine zm_ac (om_pk nt_ci (ok_iconst (l := l) (B := B) (y := m_Dr_append) (pc := 0) (n := (0)) (zd_dr dc_Dr_append 0 rfl) rfl)) ?_
  refine zm_ac (om_pk nt_istore (ok_istore_n (l := l) (B := B) (y := m_Dr_append) (pc := 1) (k := 3) rfl (zd_dr dc_Dr_append 1 rfl) (by decide))) ?_
  refine zm_ac (om_pk nt_ci (ok_iconst (l := l) (B := B) (y := m_Dr_append) (pc := 2) (n := (0)) (zd_dr dc_Dr_append 2 rfl) rfl)) ?_
  refine zm_ac (om_pk nt_istore (ok_istore (l := l) (B := B) (y := m_Dr_append) (pc := 3) (zd_dr dc_Dr_append 3 rfl) (by decide))) ?_
  refine zm_ac (om_pk nt_iload (ok_iload (l := l) (B := B) (y := m_Dr_append) (pc := 5) (zd_dr dc_Dr_append 4 rfl))) ?_
  refine zm_ac (om_pk nt_ci (ok_bipush (l := l) (B := B) (y := m_Dr_append) (pc := 7) (n := (8)) (zd_dr dc_Dr_append 5 rfl) rfl)) ?_
  refine zm_ac (om_pk nt_icmp_ge (ok_icmp_ge (l := l) (B := B) (y := m_Dr_append) (pc := 9) (zd_dr dc_Dr_append 6 rfl) (by decide))) ?_
  refine zm_ac (om_pk nt_iload (ok_iload_n (l := l) (B := B) (y := m_Dr_append) (pc := 12) (k := 3) rfl (zd_dr dc_Dr_append 7 rfl))) ?_
  refine zm_ac (om_pk nt_lload (ok_lload_n (l := l) (B := B) (y := m_Dr_append) (pc := 13) (k := 1) rfl (zd_dr dc_Dr_append 8 rfl))) ?_
  refine zm_ac (om_pk nt_iload (ok_iload (l := l) (B := B) (y := m_Dr_append) (pc := 14) (zd_dr dc_Dr_append 9 rfl))) ?_
  refine zm_ac (ok_mcalls (ok_calls (l := l) (B := B) (y := m_Dr_append) (pc := 16) hG cf_Dr_append_Dr_byteAt rfl (List.mem_of_getElem? (i := 267) (by decide +kernel)) (List.mem_of_getElem? (i := 268) (by decide +kernel)) (List.mem_of_getElem? (i := 59) (by decide +kernel)) (zd_dr dc_Dr_append 10 rfl))) ?_
  refine zm_ac (om_pk nt_if_eq (ok_if_eq (l := l) (B := B) (y := m_Dr_append) (pc := 19) (zd_dr dc_Dr_append 11 rfl) (by decide))) ?_
  refine zm_ac (om_pk nt_ci (ok_iconst (l := l) (B := B) (y := m_Dr_append) (pc := 22) (n := (1)) (zd_dr dc_Dr_append 12 rfl) rfl)) ?_
  refine zm_ac (om_pk nt_goto (ok_goto (l := l) (B := B) (y := m_Dr_append) (pc := 23) (zd_dr dc_Dr_append 13 rfl) (by decide))) ?_
  refine zm_ac (om_pk nt_ci (ok_iconst (l := l) (B := B) (y := m_Dr_append) (pc := 26) (n := (0)) (zd_dr dc_Dr_append 14 rfl) rfl)) ?_
  refine zm_ac (om_pk nt_iadd (ok_iadd (l := l) (B := B) (y := m_Dr_append) (pc := 27) (zd_dr dc_Dr_append 15 rfl))) ?_
  refine zm_ac (om_pk nt_istore (ok_istore_n (l := l) (B := B) (y := m_Dr_append) (pc := 28) (k := 3) rfl (zd_dr dc_Dr_append 16 rfl) (by decide))) ?_
  refine zm_ac (om_pk nt_iinc (ok_iinc (l := l) (B := B) (y := m_Dr_append) (pc := 29) (zd_dr dc_Dr_append 17 rfl) (by decide) rfl)) ?_
  refine zm_ac (om_pk nt_goto (ok_goto (l := l) (B := B) (y := m_Dr_append) (pc := 32) (zd_dr dc_Dr_append 18 rfl) (by decide))) ?_
  refine zm_ac (om_pk nt_aload (ok_aload_n (l := l) (B := B) (y := m_Dr_append) (pc := 35) (k := 0) rfl (zd_dr dc_Dr_append 19 rfl))) ?_
  refine zm_ac (ok_mgetf rfl (ok_getf (l := l) (B := B) (y := m_Dr_append) (pc := 36) hG (C := zR3) (T := zT3) (N := 8) (ci := 3) (k := 1) rfl zl3 (by decide) (List.mem_of_getElem? (i := 133) (by decide +kernel)) (zd_dr dc_Dr_append 20 rfl))) ?_
  refine zm_ac (om_pk nt_iload (ok_iload_n (l := l) (B := B) (y := m_Dr_append) (pc := 39) (k := 3) rfl (zd_dr dc_Dr_append 21 rfl))) ?_
  refine zm_ac (om_pk nt_iadd (ok_iadd (l := l) (B := B) (y := m_Dr_append) (pc := 40) (zd_dr dc_Dr_append 22 rfl))) ?_
  refine zm_ac (om_pk nt_ci (ok_sipush (l := l) (B := B) (y := m_Dr_append) (pc := 41) (n := (1100)) (zd_dr dc_Dr_append 23 rfl) rfl)) ?_
  refine zm_ac (om_pk nt_icmp_le (ok_icmp_le (l := l) (B := B) (y := m_Dr_append) (pc := 44) (zd_dr dc_Dr_append 24 rfl) (by decide))) ?_
  refine zm_ac (om_pk nt_ci (ok_iconst (l := l) (B := B) (y := m_Dr_append) (pc := 47) (n := (-1)) (zd_dr dc_Dr_append 25 rfl) rfl)) ?_
  refine zm_ac (ok_miret (ok_iret (l := l) (B := B) (y := m_Dr_append) (pc := 48) rfl (zd_dr dc_Dr_append 26 rfl))) ?_
  refine zm_ac (om_pk nt_ci (ok_iconst (l := l) (B := B) (y := m_Dr_append) (pc := 49) (n := (0)) (zd_dr dc_Dr_append 27 rfl) rfl)) ?_
  refine zm_ac (om_pk nt_istore (ok_istore (l := l) (B := B) (y := m_Dr_append) (pc := 50) (zd_dr dc_Dr_append 28 rfl) (by decide))) ?_
  refine zm_ac (om_pk nt_iload (ok_iload (l := l) (B := B) (y := m_Dr_append) (pc := 52) (zd_dr dc_Dr_append 29 rfl))) ?_
  refine zm_ac (om_pk nt_ci (ok_bipush (l := l) (B := B) (y := m_Dr_append) (pc := 54) (n := (8)) (zd_dr dc_Dr_append 30 rfl) rfl)) ?_
  refine zm_ac (om_pk nt_icmp_ge (ok_icmp_ge (l := l) (B := B) (y := m_Dr_append) (pc := 56) (zd_dr dc_Dr_append 31 rfl) (by decide))) ?_
  refine zm_ac (om_pk nt_lload (ok_lload_n (l := l) (B := B) (y := m_Dr_append) (pc := 59) (k := 1) rfl (zd_dr dc_Dr_append 32 rfl))) ?_
  refine zm_ac (om_pk nt_iload (ok_iload (l := l) (B := B) (y := m_Dr_append) (pc := 60) (zd_dr dc_Dr_append 33 rfl))) ?_
  refine zm_ac (ok_mcalls (ok_calls (l := l) (B := B) (y := m_Dr_append) (pc := 62) hG cf_Dr_append_Dr_byteAt rfl (List.mem_of_getElem? (i := 267) (by decide +kernel)) (List.mem_of_getElem? (i := 268) (by decide +kernel)) (List.mem_of_getElem? (i := 59) (by decide +kernel)) (zd_dr dc_Dr_append 34 rfl))) ?_
  refine zm_ac (om_pk nt_istore (ok_istore (l := l) (B := B) (y := m_Dr_append) (pc := 65) (zd_dr dc_Dr_append 35 rfl) (by decide))) ?_
  refine zm_ac (om_pk nt_iload (ok_iload (l := l) (B := B) (y := m_Dr_append) (pc := 67) (zd_dr dc_Dr_append 36 rfl))) ?_
  refine zm_ac (om_pk nt_if_eq (ok_if_eq (l := l) (B := B) (y := m_Dr_append) (pc := 69) (zd_dr dc_Dr_append 37 rfl) (by decide))) ?_
  refine zm_ac (om_pk nt_aload (ok_aload_n (l := l) (B := B) (y := m_Dr_append) (pc := 72) (k := 0) rfl (zd_dr dc_Dr_append 38 rfl))) ?_
  refine zm_ac (ok_mgetf rfl (ok_getf (l := l) (B := B) (y := m_Dr_append) (pc := 73) hG (C := zR3) (T := zT3) (N := 8) (ci := 3) (k := 0) rfl zl3 (by decide) (List.mem_of_getElem? (i := 132) (by decide +kernel)) (zd_dr dc_Dr_append 39 rfl))) ?_
  refine zm_ac (om_pk nt_aload (ok_aload_n (l := l) (B := B) (y := m_Dr_append) (pc := 76) (k := 0) rfl (zd_dr dc_Dr_append 40 rfl))) ?_
  refine zm_ac (ok_mgetf rfl (ok_getf (l := l) (B := B) (y := m_Dr_append) (pc := 77) hG (C := zR3) (T := zT3) (N := 8) (ci := 3) (k := 1) rfl zl3 (by decide) (List.mem_of_getElem? (i := 133) (by decide +kernel)) (zd_dr dc_Dr_append 41 rfl))) ?_
  refine zm_ac (om_pk nt_iload (ok_iload (l := l) (B := B) (y := m_Dr_append) (pc := 80) (zd_dr dc_Dr_append 42 rfl))) ?_
  refine zm_ac (ok_mcastore (ok_castore (l := l) (B := B) (y := m_Dr_append) (pc := 82) hG (zd_dr dc_Dr_append 43 rfl))) ?_
  refine zm_ac (om_pk nt_aload (ok_aload_n (l := l) (B := B) (y := m_Dr_append) (pc := 83) (k := 0) rfl (zd_dr dc_Dr_append 44 rfl))) ?_
  refine zm_ac (om_pk nt_dup (ok_dup (l := l) (B := B) (y := m_Dr_append) (pc := 84) (zd_dr dc_Dr_append 45 rfl))) ?_
  refine zm_ac (ok_mgetf rfl (ok_getf (l := l) (B := B) (y := m_Dr_append) (pc := 85) hG (C := zR3) (T := zT3) (N := 8) (ci := 3) (k := 1) rfl zl3 (by decide) (List.mem_of_getElem? (i := 133) (by decide +kernel)) (zd_dr dc_Dr_append 46 rfl))) ?_
  refine zm_ac (om_pk nt_ci (ok_iconst (l := l) (B := B) (y := m_Dr_append) (pc := 88) (n := (1)) (zd_dr dc_Dr_append 47 rfl) rfl)) ?_
  refine zm_ac (om_pk nt_iadd (ok_iadd (l := l) (B := B) (y := m_Dr_append) (pc := 89) (zd_dr dc_Dr_append 48 rfl))) ?_
  refine zm_ac (ok_mputi rfl (ok_putf (l := l) (B := B) (y := m_Dr_append) (pc := 90) hG (C := zR3) (T := zT3) (N := 8) (ci := 3) (k := 1) rfl zl3 zt3 (by decide) (List.mem_of_getElem? (i := 133) (by decide +kernel)) rfl (zd_dr dc_Dr_append 49 rfl))) ?_
  refine zm_ac (om_pk nt_iinc (ok_iinc (l := l) (B := B) (y := m_Dr_append) (pc := 93) (zd_dr dc_Dr_append 50 rfl) (by decide) rfl)) ?_
  refine zm_ac (om_pk nt_goto (ok_goto (l := l) (B := B) (y := m_Dr_append) (pc := 96) (zd_dr dc_Dr_append 51 rfl) (by decide))) ?_
  refine zm_ac (om_pk nt_aload (ok_aload_n (l := l) (B := B) (y := m_Dr_append) (pc := 99) (k := 0) rfl (zd_dr dc_Dr_append 52 rfl))) ?_
  refine zm_ac (ok_mgetf rfl (ok_getf (l := l) (B := B) (y := m_Dr_append) (pc := 100) hG (C := zR3) (T := zT3) (N := 8) (ci := 3) (k := 1) rfl zl3 (by decide) (List.mem_of_getElem? (i := 133) (by decide +kernel)) (zd_dr dc_Dr_append 53 rfl))) ?_
  refine zm_ac (ok_miret (ok_iret (l := l) (B := B) (y := m_Dr_append) (pc := 103) rfl (zd_dr dc_Dr_append 54 rfl))) ?_
  exact zm_an
def dl_Dr_byteAt : List (Nat × Instr × Nat) := [(0, .lload_n 0, 1), (1, .bipush (8), 2), (3, .iload_n 2, 1), (4, .imul, 1), (5, .lushr, 1), (6, .ldc2_w 23, 3), (9, .land, 1), (10, .l2i, 1), (11, .i2c, 1), (12, .ireturn, 1)]
theorem dc_Dr_byteAt : ∀ q ∈ dl_Dr_byteAt, decode (zd_yb m_Dr_byteAt) q.1 = .ok q.2 := by decide +kernel
def cm_Dr_byteAt (l : Launch) (B : zd_B) : List (Nat × zm_S) := [(0, om_p (oc_lload 0 1)), (1, om_p (oc_ci (8) 3)), (3, om_p (oc_iload 2 4)), (4, om_p (oc_imul 5)), (5, om_p (oc_lushr 6)), (6, om_p (oc_cl (255) 9)), (9, om_p (oc_land 10)), (10, om_p (oc_l2i 11)), (11, om_p (oc_i2c 12)), (12, om_cret)]
set_option maxRecDepth 20000 in
theorem okm_Dr_byteAt {l : Launch} {B : zd_B} (hG : zd_G B) (hl : l.stackTraces = false) : ∀ q ∈ cm_Dr_byteAt l B, zm_ok l B gD m_Dr_byteAt q.1 q.2 := by
  unfold cm_Dr_byteAt
  refine zm_ac (om_pk nt_lload (ok_lload_n (l := l) (B := B) (y := m_Dr_byteAt) (pc := 0) (k := 0) rfl (zd_dr dc_Dr_byteAt 0 rfl))) ?_
  refine zm_ac (om_pk nt_ci (ok_bipush (l := l) (B := B) (y := m_Dr_byteAt) (pc := 1) (n := (8)) (zd_dr dc_Dr_byteAt 1 rfl) rfl)) ?_
  refine zm_ac (om_pk nt_iload (ok_iload_n (l := l) (B := B) (y := m_Dr_byteAt) (pc := 3) (k := 2) rfl (zd_dr dc_Dr_byteAt 2 rfl))) ?_
  refine zm_ac (om_pk nt_imul (ok_imul (l := l) (B := B) (y := m_Dr_byteAt) (pc := 4) (zd_dr dc_Dr_byteAt 3 rfl))) ?_
  refine zm_ac (om_pk nt_lushr (ok_lushr (l := l) (B := B) (y := m_Dr_byteAt) (pc := 5) (zd_dr dc_Dr_byteAt 4 rfl))) ?_
  refine zm_ac (om_pk nt_cl (ok_ldc2 (l := l) (B := B) (y := m_Dr_byteAt) (pc := 6) hG (List.mem_of_getElem? (i := 270) (by decide +kernel)) (zd_dr dc_Dr_byteAt 5 rfl))) ?_
  refine zm_ac (om_pk nt_land (ok_land (l := l) (B := B) (y := m_Dr_byteAt) (pc := 9) (zd_dr dc_Dr_byteAt 6 rfl))) ?_
  refine zm_ac (om_pk nt_l2i (ok_l2i (l := l) (B := B) (y := m_Dr_byteAt) (pc := 10) (zd_dr dc_Dr_byteAt 7 rfl))) ?_
  refine zm_ac (om_pk nt_i2c (ok_i2c (l := l) (B := B) (y := m_Dr_byteAt) (pc := 11) (zd_dr dc_Dr_byteAt 8 rfl))) ?_
  refine zm_ac (ok_mcret (ok_iret (l := l) (B := B) (y := m_Dr_byteAt) (pc := 12) rfl (zd_dr dc_Dr_byteAt 9 rfl))) ?_
  exact zm_an
def dl_Dr_clear : List (Nat × Instr × Nat) := [(0, .aload_n 0, 1), (1, .getfield 19, 3), (4, .istore_n 1, 1), (5, .aload_n 0, 1), (6, .iconst (0), 1), (7, .putfield 19, 3), (10, .iload_n 1, 1), (11, .ireturn, 1)]
theorem dc_Dr_clear : ∀ q ∈ dl_Dr_clear, decode (zd_yb m_Dr_clear) q.1 = .ok q.2 := by decide +kernel
def cm_Dr_clear (l : Launch) (B : zd_B) : List (Nat × zm_S) := [(0, om_p (oc_aload 0 1)), (1, om_getf gD 1 4), (4, om_p (oc_istore 1 5)), (5, om_p (oc_aload 0 6)), (6, om_p (oc_ci (0) 7)), (7, om_puti gD 1 10), (10, om_p (oc_iload 1 11)), (11, om_iret)]
set_option maxRecDepth 20000 in
theorem okm_Dr_clear {l : Launch} {B : zd_B} (hG : zd_G B) (hl : l.stackTraces = false) : ∀ q ∈ cm_Dr_clear l B, zm_ok l B gD m_Dr_clear q.1 q.2 := by
  unfold cm_Dr_clear
  refine zm_ac (om_pk nt_aload (ok_aload_n (l := l) (B := B) (y := m_Dr_clear) (pc := 0) (k := 0) rfl (zd_dr dc_Dr_clear 0 rfl))) ?_
  refine zm_ac (ok_mgetf rfl (ok_getf (l := l) (B := B) (y := m_Dr_clear) (pc := 1) hG (C := zR3) (T := zT3) (N := 8) (ci := 3) (k := 1) rfl zl3 (by decide) (List.mem_of_getElem? (i := 133) (by decide +kernel)) (zd_dr dc_Dr_clear 1 rfl))) ?_
  refine zm_ac (om_pk nt_istore (ok_istore_n (l := l) (B := B) (y := m_Dr_clear) (pc := 4) (k := 1) rfl (zd_dr dc_Dr_clear 2 rfl) (by decide))) ?_
  refine zm_ac (om_pk nt_aload (ok_aload_n (l := l) (B := B) (y := m_Dr_clear) (pc := 5) (k := 0) rfl (zd_dr dc_Dr_clear 3 rfl))) ?_
  refine zm_ac (om_pk nt_ci (ok_iconst (l := l) (B := B) (y := m_Dr_clear) (pc := 6) (n := (0)) (zd_dr dc_Dr_clear 4 rfl) rfl)) ?_
  refine zm_ac (ok_mputi rfl (ok_putf (l := l) (B := B) (y := m_Dr_clear) (pc := 7) hG (C := zR3) (T := zT3) (N := 8) (ci := 3) (k := 1) rfl zl3 zt3 (by decide) (List.mem_of_getElem? (i := 133) (by decide +kernel)) rfl (zd_dr dc_Dr_clear 5 rfl))) ?_
  refine zm_ac (om_pk nt_iload (ok_iload_n (l := l) (B := B) (y := m_Dr_clear) (pc := 10) (k := 1) rfl (zd_dr dc_Dr_clear 6 rfl))) ?_
  refine zm_ac (ok_miret (ok_iret (l := l) (B := B) (y := m_Dr_clear) (pc := 11) rfl (zd_dr dc_Dr_clear 7 rfl))) ?_
  exact zm_an
def dl_Dr_isNumberText : List (Nat × Instr × Nat) := [(0, .aload_n 0, 1), (1, .aload_n 0, 1), (2, .iconst (0), 1), (3, .invokevirtual 25, 3), (6, .putfield 29, 3), (9, .aload_n 0, 1), (10, .aload_n 0, 1), (11, .getfield 29, 3), (14, .ifCond .le (18), 3), (17, .aload_n 0, 1), (18, .getfield 9, 3), (21, .iconst (0), 1), (22, .caload, 1), (23, .bipush (45), 2), (25, .if_icmp .ne (7), 3), (28, .iconst (1), 1), (29, .goto (4), 3), (32, .iconst (0), 1), (33, .putfield 32, 3), (36, .aload_n 0, 1), (37, .invokevirtual 36, 3), (40, .aload_n 0, 1), (41, .lconst 0, 1), (42, .putfield 39, 3), (45, .aload_n 0, 1), (46, .getfield 43, 3), (49, .ifCond .ne (5), 3), (52, .iconst (0), 1), (53, .ireturn, 1), (54, .aload_n 0, 1), (55, .getfield 46, 3), (58, .aload_n 0, 1), (59, .getfield 19, 3), (62, .if_icmp .eq (10), 3), (65, .aload_n 0, 1), (66, .invokevirtual 49, 3), (69, .ifCond .eq (7), 3), (72, .iconst (1), 1), (73, .goto (4), 3), (76, .iconst (0), 1), (77, .ireturn, 1)]
theorem dc_Dr_isNumberText : ∀ q ∈ dl_Dr_isNumberText, decode (zd_yb m_Dr_isNumberText) q.1 = .ok q.2 := by decide +kernel
def cm_Dr_isNumberText (l : Launch) (B : zd_B) : List (Nat × zm_S) := [(0, om_p (oc_aload 0 1)), (1, om_p (oc_aload 0 2)), (2, om_p (oc_ci (0) 3)), (3, om_callv l B gD m_Dr_behindSign 1 6), (6, om_puti gD 3 9), (9, om_p (oc_aload 0 10)), (10, om_p (oc_aload 0 11)), (11, om_getf gD 3 14), (14, om_p (oc_if_le 32 17)), (17, om_p (oc_aload 0 18)), (18, om_getf gD 0 21), (21, om_p (oc_ci (0) 22)), (22, om_ald gD 1 23), (23, om_p (oc_ci (45) 25)), (25, om_p (oc_icmp_ne 32 28)), (28, om_p (oc_ci (1) 29)), (29, om_p (oc_goto 33)), (32, om_p (oc_ci (0) 33)), (33, om_putb gD 2 36), (36, om_p (oc_aload 0 37)), (37, om_callv l B gD m_Dr_scanDigits 0 40), (40, om_p (oc_aload 0 41)), (41, om_p (oc_cl 0 42)), (42, om_putl gD 7 45), (45, om_p (oc_aload 0 46)), (46, om_getf gD 5 49), (49, om_p (oc_if_ne 54 52)), (52, om_p (oc_ci (0) 53)), (53, om_zret), (54, om_p (oc_aload 0 55)), (55, om_getf gD 4 58), (58, om_p (oc_aload 0 59)), (59, om_getf gD 1 62), (62, om_p (oc_icmp_eq 72 65)), (65, om_p (oc_aload 0 66)), (66, om_callv l B gD m_Dr_scanExponent 0 69), (69, om_p (oc_if_eq 76 72)), (72, om_p (oc_ci (1) 73)), (73, om_p (oc_goto 77)), (76, om_p (oc_ci (0) 77)), (77, om_zret)]
set_option maxRecDepth 20000 in
theorem okm_Dr_isNumberText {l : Launch} {B : zd_B} (hG : zd_G B) (hl : l.stackTraces = false) : ∀ q ∈ cm_Dr_isNumberText l B, zm_ok l B gD m_Dr_isNumberText q.1 q.2 := by
  unfold cm_Dr_isNumberText
  refine zm_ac (om_pk nt_aload (ok_aload_n (l := l) (B := B) (y := m_Dr_isNumberText) (pc := 0) (k := 0) rfl (zd_dr dc_Dr_isNumberText 0 rfl))) ?_
  refine zm_ac (om_pk nt_aload (ok_aload_n (l := l) (B := B) (y := m_Dr_isNumberText) (pc := 1) (k := 0) rfl (zd_dr dc_Dr_isNumberText 1 rfl))) ?_
  refine zm_ac (om_pk nt_ci (ok_iconst (l := l) (B := B) (y := m_Dr_isNumberText) (pc := 2) (n := (0)) (zd_dr dc_Dr_isNumberText 2 rfl) rfl)) ?_
  refine zm_ac (ok_mcallv rfl (ok_callv (l := l) (B := B) (y := m_Dr_isNumberText) (pc := 3) hG (ci := 3) rfl cf_Dr_isNumberText_Dr_behindSign rfl (List.mem_of_getElem? (i := 373) (by decide +kernel)) (List.mem_of_getElem? (i := 375) (by decide +kernel)) (List.mem_of_getElem? (i := 1) (by decide +kernel)) (zd_dr dc_Dr_isNumberText 3 rfl))) ?_
  refine zm_ac (ok_mputi rfl (ok_putf (l := l) (B := B) (y := m_Dr_isNumberText) (pc := 6) hG (C := zR3) (T := zT3) (N := 8) (ci := 3) (k := 3) rfl zl3 zt3 (by decide) (List.mem_of_getElem? (i := 135) (by decide +kernel)) rfl (zd_dr dc_Dr_isNumberText 4 rfl))) ?_
  refine zm_ac (om_pk nt_aload (ok_aload_n (l := l) (B := B) (y := m_Dr_isNumberText) (pc := 9) (k := 0) rfl (zd_dr dc_Dr_isNumberText 5 rfl))) ?_
  refine zm_ac (om_pk nt_aload (ok_aload_n (l := l) (B := B) (y := m_Dr_isNumberText) (pc := 10) (k := 0) rfl (zd_dr dc_Dr_isNumberText 6 rfl))) ?_
  refine zm_ac (ok_mgetf rfl (ok_getf (l := l) (B := B) (y := m_Dr_isNumberText) (pc := 11) hG (C := zR3) (T := zT3) (N := 8) (ci := 3) (k := 3) rfl zl3 (by decide) (List.mem_of_getElem? (i := 135) (by decide +kernel)) (zd_dr dc_Dr_isNumberText 7 rfl))) ?_
  refine zm_ac (om_pk nt_if_le (ok_if_le (l := l) (B := B) (y := m_Dr_isNumberText) (pc := 14) (zd_dr dc_Dr_isNumberText 8 rfl) (by decide))) ?_
  refine zm_ac (om_pk nt_aload (ok_aload_n (l := l) (B := B) (y := m_Dr_isNumberText) (pc := 17) (k := 0) rfl (zd_dr dc_Dr_isNumberText 9 rfl))) ?_
  refine zm_ac (ok_mgetf rfl (ok_getf (l := l) (B := B) (y := m_Dr_isNumberText) (pc := 18) hG (C := zR3) (T := zT3) (N := 8) (ci := 3) (k := 0) rfl zl3 (by decide) (List.mem_of_getElem? (i := 132) (by decide +kernel)) (zd_dr dc_Dr_isNumberText 10 rfl))) ?_
  refine zm_ac (om_pk nt_ci (ok_iconst (l := l) (B := B) (y := m_Dr_isNumberText) (pc := 21) (n := (0)) (zd_dr dc_Dr_isNumberText 11 rfl) rfl)) ?_
  refine zm_ac (ok_mcaload (ok_caload (l := l) (B := B) (y := m_Dr_isNumberText) (pc := 22) hG (zd_dr dc_Dr_isNumberText 12 rfl))) ?_
  refine zm_ac (om_pk nt_ci (ok_bipush (l := l) (B := B) (y := m_Dr_isNumberText) (pc := 23) (n := (45)) (zd_dr dc_Dr_isNumberText 13 rfl) rfl)) ?_
  refine zm_ac (om_pk nt_icmp_ne (ok_icmp_ne (l := l) (B := B) (y := m_Dr_isNumberText) (pc := 25) (zd_dr dc_Dr_isNumberText 14 rfl) (by decide))) ?_
  refine zm_ac (om_pk nt_ci (ok_iconst (l := l) (B := B) (y := m_Dr_isNumberText) (pc := 28) (n := (1)) (zd_dr dc_Dr_isNumberText 15 rfl) rfl)) ?_
  refine zm_ac (om_pk nt_goto (ok_goto (l := l) (B := B) (y := m_Dr_isNumberText) (pc := 29) (zd_dr dc_Dr_isNumberText 16 rfl) (by decide))) ?_
  refine zm_ac (om_pk nt_ci (ok_iconst (l := l) (B := B) (y := m_Dr_isNumberText) (pc := 32) (n := (0)) (zd_dr dc_Dr_isNumberText 17 rfl) rfl)) ?_
  refine zm_ac (ok_mputb rfl (ok_putf (l := l) (B := B) (y := m_Dr_isNumberText) (pc := 33) hG (C := zR3) (T := zT3) (N := 8) (ci := 3) (k := 2) rfl zl3 zt3 (by decide) (List.mem_of_getElem? (i := 134) (by decide +kernel)) rfl (zd_dr dc_Dr_isNumberText 18 rfl))) ?_
  refine zm_ac (om_pk nt_aload (ok_aload_n (l := l) (B := B) (y := m_Dr_isNumberText) (pc := 36) (k := 0) rfl (zd_dr dc_Dr_isNumberText 19 rfl))) ?_
  refine zm_ac (ok_mcallv rfl (ok_callv (l := l) (B := B) (y := m_Dr_isNumberText) (pc := 37) hG (ci := 3) rfl cf_Dr_isNumberText_Dr_scanDigits rfl (List.mem_of_getElem? (i := 377) (by decide +kernel)) (List.mem_of_getElem? (i := 379) (by decide +kernel)) (List.mem_of_getElem? (i := 2) (by decide +kernel)) (zd_dr dc_Dr_isNumberText 20 rfl))) ?_
  refine zm_ac (om_pk nt_aload (ok_aload_n (l := l) (B := B) (y := m_Dr_isNumberText) (pc := 40) (k := 0) rfl (zd_dr dc_Dr_isNumberText 21 rfl))) ?_
  refine zm_ac (om_pk nt_cl (ok_lconst (l := l) (B := B) (y := m_Dr_isNumberText) (pc := 41) (n := 0) (zd_dr dc_Dr_isNumberText 22 rfl) rfl)) ?_
  refine zm_ac (ok_mputl rfl (ok_putf (l := l) (B := B) (y := m_Dr_isNumberText) (pc := 42) hG (C := zR3) (T := zT3) (N := 8) (ci := 3) (k := 7) rfl zl3 zt3 (by decide) (List.mem_of_getElem? (i := 139) (by decide +kernel)) rfl (zd_dr dc_Dr_isNumberText 23 rfl))) ?_
  refine zm_ac (om_pk nt_aload (ok_aload_n (l := l) (B := B) (y := m_Dr_isNumberText) (pc := 45) (k := 0) rfl (zd_dr dc_Dr_isNumberText 24 rfl))) ?_
  refine zm_ac (ok_mgetf rfl (ok_getf (l := l) (B := B) (y := m_Dr_isNumberText) (pc := 46) hG (C := zR3) (T := zT3) (N := 8) (ci := 3) (k := 5) rfl zl3 (by decide) (List.mem_of_getElem? (i := 137) (by decide +kernel)) (zd_dr dc_Dr_isNumberText 25 rfl))) ?_
  refine zm_ac (om_pk nt_if_ne (ok_if_ne (l := l) (B := B) (y := m_Dr_isNumberText) (pc := 49) (zd_dr dc_Dr_isNumberText 26 rfl) (by decide))) ?_
  refine zm_ac (om_pk nt_ci (ok_iconst (l := l) (B := B) (y := m_Dr_isNumberText) (pc := 52) (n := (0)) (zd_dr dc_Dr_isNumberText 27 rfl) rfl)) ?_
  refine zm_ac (ok_mzret (ok_iret (l := l) (B := B) (y := m_Dr_isNumberText) (pc := 53) rfl (zd_dr dc_Dr_isNumberText 28 rfl))) ?_
  refine zm_ac (om_pk nt_aload (ok_aload_n (l := l) (B := B) (y := m_Dr_isNumberText) (pc := 54) (k := 0) rfl (zd_dr dc_Dr_isNumberText 29 rfl))) ?_
  refine zm_ac (ok_mgetf rfl (ok_getf (l := l) (B := B) (y := m_Dr_isNumberText) (pc := 55) hG (C := zR3) (T := zT3) (N := 8) (ci := 3) (k := 4) rfl zl3 (by decide) (List.mem_of_getElem? (i := 136) (by decide +kernel)) (zd_dr dc_Dr_isNumberText 30 rfl))) ?_
  refine zm_ac (om_pk nt_aload (ok_aload_n (l := l) (B := B) (y := m_Dr_isNumberText) (pc := 58) (k := 0) rfl (zd_dr dc_Dr_isNumberText 31 rfl))) ?_
  refine zm_ac (ok_mgetf rfl (ok_getf (l := l) (B := B) (y := m_Dr_isNumberText) (pc := 59) hG (C := zR3) (T := zT3) (N := 8) (ci := 3) (k := 1) rfl zl3 (by decide) (List.mem_of_getElem? (i := 133) (by decide +kernel)) (zd_dr dc_Dr_isNumberText 32 rfl))) ?_
  refine zm_ac (om_pk nt_icmp_eq (ok_icmp_eq (l := l) (B := B) (y := m_Dr_isNumberText) (pc := 62) (zd_dr dc_Dr_isNumberText 33 rfl) (by decide))) ?_
  refine zm_ac (om_pk nt_aload (ok_aload_n (l := l) (B := B) (y := m_Dr_isNumberText) (pc := 65) (k := 0) rfl (zd_dr dc_Dr_isNumberText 34 rfl))) ?_
  refine zm_ac (ok_mcallv rfl (ok_callv (l := l) (B := B) (y := m_Dr_isNumberText) (pc := 66) hG (ci := 3) rfl cf_Dr_isNumberText_Dr_scanExponent rfl (List.mem_of_getElem? (i := 384) (by decide +kernel)) (List.mem_of_getElem? (i := 386) (by decide +kernel)) (List.mem_of_getElem? (i := 3) (by decide +kernel)) (zd_dr dc_Dr_isNumberText 35 rfl))) ?_
  refine zm_ac (om_pk nt_if_eq (ok_if_eq (l := l) (B := B) (y := m_Dr_isNumberText) (pc := 69) (zd_dr dc_Dr_isNumberText 36 rfl) (by decide))) ?_
  refine zm_ac (om_pk nt_ci (ok_iconst (l := l) (B := B) (y := m_Dr_isNumberText) (pc := 72) (n := (1)) (zd_dr dc_Dr_isNumberText 37 rfl) rfl)) ?_
  refine zm_ac (om_pk nt_goto (ok_goto (l := l) (B := B) (y := m_Dr_isNumberText) (pc := 73) (zd_dr dc_Dr_isNumberText 38 rfl) (by decide))) ?_
  refine zm_ac (om_pk nt_ci (ok_iconst (l := l) (B := B) (y := m_Dr_isNumberText) (pc := 76) (n := (0)) (zd_dr dc_Dr_isNumberText 39 rfl) rfl)) ?_
  refine zm_ac (ok_mzret (ok_iret (l := l) (B := B) (y := m_Dr_isNumberText) (pc := 77) rfl (zd_dr dc_Dr_isNumberText 40 rfl))) ?_
  exact zm_an
def dl_Dr_behindSign : List (Nat × Instr × Nat) := [(0, .iload_n 1, 1), (1, .aload_n 0, 1), (2, .getfield 19, 3), (5, .if_icmp .ge (31), 3), (8, .aload_n 0, 1), (9, .getfield 9, 3), (12, .iload_n 1, 1), (13, .caload, 1), (14, .bipush (43), 2), (16, .if_icmp .eq (14), 3), (19, .aload_n 0, 1), (20, .getfield 9, 3), (23, .iload_n 1, 1), (24, .caload, 1), (25, .bipush (45), 2), (27, .if_icmp .ne (9), 3), (30, .iload_n 1, 1), (31, .iconst (1), 1), (32, .iadd, 1), (33, .goto (4), 3), (36, .iload_n 1, 1), (37, .ireturn, 1)]
theorem dc_Dr_behindSign : ∀ q ∈ dl_Dr_behindSign, decode (zd_yb m_Dr_behindSign) q.1 = .ok q.2 := by decide +kernel
def cm_Dr_behindSign (l : Launch) (B : zd_B) : List (Nat × zm_S) := [(0, om_p (oc_iload 1 1)), (1, om_p (oc_aload 0 2)), (2, om_getf gD 1 5), (5, om_p (oc_icmp_ge 36 8)), (8, om_p (oc_aload 0 9)), (9, om_getf gD 0 12), (12, om_p (oc_iload 1 13)), (13, om_ald gD 1 14), (14, om_p (oc_ci (43) 16)), (16, om_p (oc_icmp_eq 30 19)), (19, om_p (oc_aload 0 20)), (20, om_getf gD 0 23), (23, om_p (oc_iload 1 24)), (24, om_ald gD 1 25), (25, om_p (oc_ci (45) 27)), (27, om_p (oc_icmp_ne 36 30)), (30, om_p (oc_iload 1 31)), (31, om_p (oc_ci (1) 32)), (32, om_p (oc_iadd 33)), (33, om_p (oc_goto 37)), (36, om_p (oc_iload 1 37)), (37, om_iret)]
set_option maxRecDepth 20000 in
theorem okm_Dr_behindSign {l : Launch} {B : zd_B} (hG : zd_G B) (hl : l.stackTraces = false) : ∀ q ∈ cm_Dr_behindSign l B, zm_ok l B gD m_Dr_behindSign q.1 q.2 := by
  unfold cm_Dr_behindSign
  refine zm_ac (om_pk nt_iload (ok_iload_n (l := l) (B := B) (y := m_Dr_behindSign) (pc := 0) (k := 1) rfl (zd_dr dc_Dr_behindSign 0 rfl))) ?_
  refine zm_ac (om_pk nt_aload (ok_aload_n (l := l) (B := B) (y := m_Dr_behindSign) (pc := 1) (k := 0) rfl (zd_dr dc_Dr_behindSign 1 rfl))) ?_
  refine zm_ac (ok_mgetf rfl (ok_getf (l := l) (B := B) (y := m_Dr_behindSign) (pc := 2) hG (C := zR3) (T := zT3) (N := 8) (ci := 3) (k := 1) rfl zl3 (by decide) (List.mem_of_getElem? (i := 133) (by decide +kernel)) (zd_dr dc_Dr_behindSign 2 rfl))) ?_
  refine zm_ac (om_pk nt_icmp_ge (ok_icmp_ge (l := l) (B := B) (y := m_Dr_behindSign) (pc := 5) (zd_dr dc_Dr_behindSign 3 rfl) (by decide))) ?_
  refine zm_ac (om_pk nt_aload (ok_aload_n (l := l) (B := B) (y := m_Dr_behindSign) (pc := 8) (k := 0) rfl (zd_dr dc_Dr_behindSign 4 rfl))) ?_
  refine zm_ac (ok_mgetf rfl (ok_getf (l := l) (B := B) (y := m_Dr_behindSign) (pc := 9) hG (C := zR3) (T := zT3) (N := 8) (ci := 3) (k := 0) rfl zl3 (by decide) (List.mem_of_getElem? (i := 132) (by decide +kernel)) (zd_dr dc_Dr_behindSign 5 rfl))) ?_
  refine zm_ac (om_pk nt_iload (ok_iload_n (l := l) (B := B) (y := m_Dr_behindSign) (pc := 12) (k := 1) rfl (zd_dr dc_Dr_behindSign 6 rfl))) ?_
  refine zm_ac (ok_mcaload (ok_caload (l := l) (B := B) (y := m_Dr_behindSign) (pc := 13) hG (zd_dr dc_Dr_behindSign 7 rfl))) ?_
  refine zm_ac (om_pk nt_ci (ok_bipush (l := l) (B := B) (y := m_Dr_behindSign) (pc := 14) (n := (43)) (zd_dr dc_Dr_behindSign 8 rfl) rfl)) ?_
  refine zm_ac (om_pk nt_icmp_eq (ok_icmp_eq (l := l) (B := B) (y := m_Dr_behindSign) (pc := 16) (zd_dr dc_Dr_behindSign 9 rfl) (by decide))) ?_
  refine zm_ac (om_pk nt_aload (ok_aload_n (l := l) (B := B) (y := m_Dr_behindSign) (pc := 19) (k := 0) rfl (zd_dr dc_Dr_behindSign 10 rfl))) ?_
  refine zm_ac (ok_mgetf rfl (ok_getf (l := l) (B := B) (y := m_Dr_behindSign) (pc := 20) hG (C := zR3) (T := zT3) (N := 8) (ci := 3) (k := 0) rfl zl3 (by decide) (List.mem_of_getElem? (i := 132) (by decide +kernel)) (zd_dr dc_Dr_behindSign 11 rfl))) ?_
  refine zm_ac (om_pk nt_iload (ok_iload_n (l := l) (B := B) (y := m_Dr_behindSign) (pc := 23) (k := 1) rfl (zd_dr dc_Dr_behindSign 12 rfl))) ?_
  refine zm_ac (ok_mcaload (ok_caload (l := l) (B := B) (y := m_Dr_behindSign) (pc := 24) hG (zd_dr dc_Dr_behindSign 13 rfl))) ?_
  refine zm_ac (om_pk nt_ci (ok_bipush (l := l) (B := B) (y := m_Dr_behindSign) (pc := 25) (n := (45)) (zd_dr dc_Dr_behindSign 14 rfl) rfl)) ?_
  refine zm_ac (om_pk nt_icmp_ne (ok_icmp_ne (l := l) (B := B) (y := m_Dr_behindSign) (pc := 27) (zd_dr dc_Dr_behindSign 15 rfl) (by decide))) ?_
  refine zm_ac (om_pk nt_iload (ok_iload_n (l := l) (B := B) (y := m_Dr_behindSign) (pc := 30) (k := 1) rfl (zd_dr dc_Dr_behindSign 16 rfl))) ?_
  refine zm_ac (om_pk nt_ci (ok_iconst (l := l) (B := B) (y := m_Dr_behindSign) (pc := 31) (n := (1)) (zd_dr dc_Dr_behindSign 17 rfl) rfl)) ?_
  refine zm_ac (om_pk nt_iadd (ok_iadd (l := l) (B := B) (y := m_Dr_behindSign) (pc := 32) (zd_dr dc_Dr_behindSign 18 rfl))) ?_
  refine zm_ac (om_pk nt_goto (ok_goto (l := l) (B := B) (y := m_Dr_behindSign) (pc := 33) (zd_dr dc_Dr_behindSign 19 rfl) (by decide))) ?_
  refine zm_ac (om_pk nt_iload (ok_iload_n (l := l) (B := B) (y := m_Dr_behindSign) (pc := 36) (k := 1) rfl (zd_dr dc_Dr_behindSign 20 rfl))) ?_
  refine zm_ac (ok_miret (ok_iret (l := l) (B := B) (y := m_Dr_behindSign) (pc := 37) rfl (zd_dr dc_Dr_behindSign 21 rfl))) ?_
  exact zm_an
def dl_Dr_isDigit : List (Nat × Instr × Nat) := [(0, .iload_n 0, 1), (1, .bipush (48), 2), (3, .if_icmp .lt (13), 3), (6, .iload_n 0, 1), (7, .bipush (57), 2), (9, .if_icmp .gt (7), 3), (12, .iconst (1), 1), (13, .goto (4), 3), (16, .iconst (0), 1), (17, .ireturn, 1)]
theorem dc_Dr_isDigit : ∀ q ∈ dl_Dr_isDigit, decode (zd_yb m_Dr_isDigit) q.1 = .ok q.2 := by decide +kernel
def cm_Dr_isDigit (l : Launch) (B : zd_B) : List (Nat × zm_S) := [(0, om_p (oc_iload 0 1)), (1, om_p (oc_ci (48) 3)), (3, om_p (oc_icmp_lt 16 6)), (6, om_p (oc_iload 0 7)), (7, om_p (oc_ci (57) 9)), (9, om_p (oc_icmp_gt 16 12)), (12, om_p (oc_ci (1) 13)), (13, om_p (oc_goto 17)), (16, om_p (oc_ci (0) 17)), (17, om_zret)]
set_option maxRecDepth 20000 in
theorem okm_Dr_isDigit {l : Launch} {B : zd_B} (hG : zd_G B) (hl : l.stackTraces = false) : ∀ q ∈ cm_Dr_isDigit l B, zm_ok l B gD m_Dr_isDigit q.1 q.2 := by
  unfold cm_Dr_isDigit
  refine zm_ac (om_pk nt_iload (ok_iload_n (l := l) (B := B) (y := m_Dr_isDigit) (pc := 0) (k := 0) rfl (zd_dr dc_Dr_isDigit 0 rfl))) ?_
  refine zm_ac (om_pk nt_ci (ok_bipush (l := l) (B := B) (y := m_Dr_isDigit) (pc := 1) (n := (48)) (zd_dr dc_Dr_isDigit 1 rfl) rfl)) ?_
  refine zm_ac (om_pk nt_icmp_lt (ok_icmp_lt (l := l) (B := B) (y := m_Dr_isDigit) (pc := 3) (zd_dr dc_Dr_isDigit 2 rfl) (by decide))) ?_
  refine zm_ac (om_pk nt_iload (ok_iload_n (l := l) (B := B) (y := m_Dr_isDigit) (pc := 6) (k := 0) rfl (zd_dr dc_Dr_isDigit 3 rfl))) ?_
  refine zm_ac (om_pk nt_ci (ok_bipush (l := l) (B := B) (y := m_Dr_isDigit) (pc := 7) (n := (57)) (zd_dr dc_Dr_isDigit 4 rfl) rfl)) ?_
  refine zm_ac (om_pk nt_icmp_gt (ok_icmp_gt (l := l) (B := B) (y := m_Dr_isDigit) (pc := 9) (zd_dr dc_Dr_isDigit 5 rfl) (by decide))) ?_
  refine zm_ac (om_pk nt_ci (ok_iconst (l := l) (B := B) (y := m_Dr_isDigit) (pc := 12) (n := (1)) (zd_dr dc_Dr_isDigit 6 rfl) rfl)) ?_
  refine zm_ac (om_pk nt_goto (ok_goto (l := l) (B := B) (y := m_Dr_isDigit) (pc := 13) (zd_dr dc_Dr_isDigit 7 rfl) (by decide))) ?_
  refine zm_ac (om_pk nt_ci (ok_iconst (l := l) (B := B) (y := m_Dr_isDigit) (pc := 16) (n := (0)) (zd_dr dc_Dr_isDigit 8 rfl) rfl)) ?_
  refine zm_ac (ok_mzret (ok_iret (l := l) (B := B) (y := m_Dr_isDigit) (pc := 17) rfl (zd_dr dc_Dr_isDigit 9 rfl))) ?_
  exact zm_an
def dl_Dr_scanDigits : List (Nat × Instr × Nat) := [(0, .iconst (0), 1), (1, .istore_n 1, 1), (2, .aload_n 0, 1), (3, .iconst (0), 1), (4, .putfield 43, 3), (7, .aload_n 0, 1), (8, .iconst (0), 1), (9, .putfield 53, 3), (12, .aload_n 0, 1), (13, .getfield 29, 3), (16, .istore_n 2, 1), (17, .iload_n 2, 1), (18, .aload_n 0, 1), (19, .getfield 19, 3), (22, .if_icmp .ge (80), 3), (25, .aload_n 0, 1), (26, .getfield 9, 3), (29, .iload_n 2, 1), (30, .caload, 1), (31, .invokestatic 56, 3), (34, .ifCond .ne (18), 3), (37, .aload_n 0, 1), (38, .getfield 9, 3), (41, .iload_n 2, 1), (42, .caload, 1), (43, .bipush (46), 2), (45, .if_icmp .ne (57), 3), (48, .iload_n 1, 1), (49, .ifCond .ne (53), 3), (52, .aload_n 0, 1), (53, .getfield 9, 3), (56, .iload_n 2, 1), (57, .caload, 1), (58, .bipush (46), 2), (60, .if_icmp .ne (8), 3), (63, .iconst (1), 1), (64, .istore_n 1, 1), (65, .goto (31), 3), (68, .aload_n 0, 1), (69, .dup, 1), (70, .getfield 43, 3), (73, .iconst (1), 1), (74, .iadd, 1), (75, .putfield 43, 3), (78, .aload_n 0, 1), (79, .dup, 1), (80, .getfield 53, 3), (83, .iload_n 1, 1), (84, .ifCond .eq (7), 3), (87, .iconst (1), 1), (88, .goto (4), 3), (91, .iconst (0), 1), (92, .iadd, 1), (93, .putfield 53, 3), (96, .iinc 2 (1), 3), (99, .goto (-82), 3), (102, .aload_n 0, 1), (103, .iload_n 2, 1), (104, .putfield 46, 3), (107, .return_, 1)]
theorem dc_Dr_scanDigits : ∀ q ∈ dl_Dr_scanDigits, decode (zd_yb m_Dr_scanDigits) q.1 = .ok q.2 := by decide +kernel
def cm_Dr_scanDigits (l : Launch) (B : zd_B) : List (Nat × zm_S) := [(0, om_p (oc_ci (0) 1)), (1, om_p (oc_istore 1 2)), (2, om_p (oc_aload 0 3)), (3, om_p (oc_ci (0) 4)), (4, om_puti gD 5 7), (7, om_p (oc_aload 0 8)), (8, om_p (oc_ci (0) 9)), (9, om_puti gD 6 12), (12, om_p (oc_aload 0 13)), (13, om_getf gD 3 16), (16, om_p (oc_istore 2 17)), (17, om_p (oc_iload 2 18)), (18, om_p (oc_aload 0 19)), (19, om_getf gD 1 22), (22, om_p (oc_icmp_ge 102 25)), (25, om_p (oc_aload 0 26)), (26, om_getf gD 0 29), (29, om_p (oc_iload 2 30)), (30, om_ald gD 1 31), (31, om_calls l B gD m_Dr_isDigit 1 34), (34, om_p (oc_if_ne 52 37)), (37, om_p (oc_aload 0 38)), (38, om_getf gD 0 41), (41, om_p (oc_iload 2 42)), (42, om_ald gD 1 43), (43, om_p (oc_ci (46) 45)), (45, om_p (oc_icmp_ne 102 48)), (48, om_p (oc_iload 1 49)), (49, om_p (oc_if_ne 102 52)), (52, om_p (oc_aload 0 53)), (53, om_getf gD 0 56), (56, om_p (oc_iload 2 57)), (57, om_ald gD 1 58), (58, om_p (oc_ci (46) 60)), (60, om_p (oc_icmp_ne 68 63)), (63, om_p (oc_ci (1) 64)), (64, om_p (oc_istore 1 65)), (65, om_p (oc_goto 96)), (68, om_p (oc_aload 0 69)), (69, om_p (oc_dup 70)), (70, om_getf gD 5 73), (73, om_p (oc_ci (1) 74)), (74, om_p (oc_iadd 75)), (75, om_puti gD 5 78), (78, om_p (oc_aload 0 79)), (79, om_p (oc_dup 80)), (80, om_getf gD 6 83), (83, om_p (oc_iload 1 84)), (84, om_p (oc_if_eq 91 87)), (87, om_p (oc_ci (1) 88)), (88, om_p (oc_goto 92)), (91, om_p (oc_ci (0) 92)), (92, om_p (oc_iadd 93)), (93, om_puti gD 6 96), (96, om_p (oc_iinc 2 (1) 99)), (99, om_p (oc_goto 17)), (102, om_p (oc_aload 0 103)), (103, om_p (oc_iload 2 104)), (104, om_puti gD 4 107), (107, om_vret)]
set_option maxRecDepth 20000 in
theorem okm_Dr_scanDigits {l : Launch} {B : zd_B} (hG : zd_G B) (hl : l.stackTraces = false) : ∀ q ∈ cm_Dr_scanDigits l B, zm_ok l B gD m_Dr_scanDigits q.1 q.2 := by
  unfold cm_Dr_scanDigits
  refine zm_ac (om_pk nt_ci (ok_iconst (l := l) (B := B) (y := m_Dr_scanDigits) (pc := 0) (n := (0)) (zd_dr dc_Dr_scanDigits 0 rfl) rfl)) ?_
  refine zm_ac (om_pk nt_istore (ok_istore_n (l := l) (B := B) (y := m_Dr_scanDigits) (pc := 1) (k := 1) rfl (zd_dr dc_Dr_scanDigits 1 rfl) (by decide))) ?_
  refine zm_ac (om_pk nt_aload (ok_aload_n (l := l) (B := B) (y := m_Dr_scanDigits) (pc := 2) (k := 0) rfl (zd_dr dc_Dr_scanDigits 2 rfl))) ?_
  refine zm_ac (om_pk nt_ci (ok_iconst (l := l) (B := B) (y := m_Dr_scanDigits) (pc := 3) (n := (0)) (zd_dr dc_Dr_scanDigits 3 rfl) rfl)) ?_
  refine zm_ac (ok_mputi rfl (ok_putf (l := l) (B := B) (y := m_Dr_scanDigits) (pc := 4) hG (C := zR3) (T := zT3) (N := 8) (ci := 3) (k := 5) rfl zl3 zt3 (by decide) (List.mem_of_getElem? (i := 137) (by decide +kernel)) rfl (zd_dr dc_Dr_scanDigits 4 rfl))) ?_
  refine zm_ac (om_pk nt_aload (ok_aload_n (l := l) (B := B) (y := m_Dr_scanDigits) (pc := 7) (k := 0) rfl (zd_dr dc_Dr_scanDigits 5 rfl))) ?_
  refine zm_ac (om_pk nt_ci (ok_iconst (l := l) (B := B) (y := m_Dr_scanDigits) (pc := 8) (n := (0)) (zd_dr dc_Dr_scanDigits 6 rfl) rfl)) ?_
  refine zm_ac (ok_mputi rfl (ok_putf (l := l) (B := B) (y := m_Dr_scanDigits) (pc := 9) hG (C := zR3) (T := zT3) (N := 8) (ci := 3) (k := 6) rfl zl3 zt3 (by decide) (List.mem_of_getElem? (i := 138) (by decide +kernel)) rfl (zd_dr dc_Dr_scanDigits 7 rfl))) ?_
  refine zm_ac (om_pk nt_aload (ok_aload_n (l := l) (B := B) (y := m_Dr_scanDigits) (pc := 12) (k := 0) rfl (zd_dr dc_Dr_scanDigits 8 rfl))) ?_
  refine zm_ac (ok_mgetf rfl (ok_getf (l := l) (B := B) (y := m_Dr_scanDigits) (pc := 13) hG (C := zR3) (T := zT3) (N := 8) (ci := 3) (k := 3) rfl zl3 (by decide) (List.mem_of_getElem? (i := 135) (by decide +kernel)) (zd_dr dc_Dr_scanDigits 9 rfl))) ?_
  refine zm_ac (om_pk nt_istore (ok_istore_n (l := l) (B := B) (y := m_Dr_scanDigits) (pc := 16) (k := 2) rfl (zd_dr dc_Dr_scanDigits 10 rfl) (by decide))) ?_
  refine zm_ac (om_pk nt_iload (ok_iload_n (l := l) (B := B) (y := m_Dr_scanDigits) (pc := 17) (k := 2) rfl (zd_dr dc_Dr_scanDigits 11 rfl))) ?_
  refine zm_ac (om_pk nt_aload (ok_aload_n (l := l) (B := B) (y := m_Dr_scanDigits) (pc := 18) (k := 0) rfl (zd_dr dc_Dr_scanDigits 12 rfl))) ?_
  refine zm_ac (ok_mgetf rfl (ok_getf (l := l) (B := B) (y := m_Dr_scanDigits) (pc := 19) hG (C := zR3) (T := zT3) (N := 8) (ci := 3) (k := 1) rfl zl3 (by decide) (List.mem_of_getElem? (i := 133) (by decide +kernel)) (zd_dr dc_Dr_scanDigits 13 rfl))) ?_
  refine zm_ac (om_pk nt_icmp_ge (ok_icmp_ge (l := l) (B := B) (y := m_Dr_scanDigits) (pc := 22) (zd_dr dc_Dr_scanDigits 14 rfl) (by decide))) ?_
  refine zm_ac (om_pk nt_aload (ok_aload_n (l := l) (B := B) (y := m_Dr_scanDigits) (pc := 25) (k := 0) rfl (zd_dr dc_Dr_scanDigits 15 rfl))) ?_
  refine zm_ac (ok_mgetf rfl (ok_getf (l := l) (B := B) (y := m_Dr_scanDigits) (pc := 26) hG (C := zR3) (T := zT3) (N := 8) (ci := 3) (k := 0) rfl zl3 (by decide) (List.mem_of_getElem? (i := 132) (by decide +kernel)) (zd_dr dc_Dr_scanDigits 16 rfl))) ?_
  refine zm_ac (om_pk nt_iload (ok_iload_n (l := l) (B := B) (y := m_Dr_scanDigits) (pc := 29) (k := 2) rfl (zd_dr dc_Dr_scanDigits 17 rfl))) ?_
  refine zm_ac (ok_mcaload (ok_caload (l := l) (B := B) (y := m_Dr_scanDigits) (pc := 30) hG (zd_dr dc_Dr_scanDigits 18 rfl))) ?_
  refine zm_ac (ok_mcalls (ok_calls (l := l) (B := B) (y := m_Dr_scanDigits) (pc := 31) hG cf_Dr_scanDigits_Dr_isDigit rfl (List.mem_of_getElem? (i := 381) (by decide +kernel)) (List.mem_of_getElem? (i := 382) (by decide +kernel)) (List.mem_of_getElem? (i := 59) (by decide +kernel)) (zd_dr dc_Dr_scanDigits 19 rfl))) ?_
  refine zm_ac (om_pk nt_if_ne (ok_if_ne (l := l) (B := B) (y := m_Dr_scanDigits) (pc := 34) (zd_dr dc_Dr_scanDigits 20 rfl) (by decide))) ?_
  refine zm_ac (om_pk nt_aload (ok_aload_n (l := l) (B := B) (y := m_Dr_scanDigits) (pc := 37) (k := 0) rfl (zd_dr dc_Dr_scanDigits 21 rfl))) ?_
  refine zm_ac (ok_mgetf rfl (ok_getf (l := l) (B := B) (y := m_Dr_scanDigits) (pc := 38) hG (C := zR3) (T := zT3) (N := 8) (ci := 3) (k := 0) rfl zl3 (by decide) (List.mem_of_getElem? (i := 132) (by decide +kernel)) (zd_dr dc_Dr_scanDigits 22 rfl))) ?_
  refine zm_ac (om_pk nt_iload (ok_iload_n (l := l) (B := B) (y := m_Dr_scanDigits) (pc := 41) (k := 2) rfl (zd_dr dc_Dr_scanDigits 23 rfl))) ?_
  refine zm_ac (ok_mcaload (ok_caload (l := l) (B := B) (y := m_Dr_scanDigits) (pc := 42) hG (zd_dr dc_Dr_scanDigits 24 rfl))) ?_
  refine zm_ac (om_pk nt_ci (ok_bipush (l := l) (B := B) (y := m_Dr_scanDigits) (pc := 43) (n := (46)) (zd_dr dc_Dr_scanDigits 25 rfl) rfl)) ?_
  refine zm_ac (om_pk nt_icmp_ne (ok_icmp_ne (l := l) (B := B) (y := m_Dr_scanDigits) (pc := 45) (zd_dr dc_Dr_scanDigits 26 rfl) (by decide))) ?_
  refine zm_ac (om_pk nt_iload (ok_iload_n (l := l) (B := B) (y := m_Dr_scanDigits) (pc := 48) (k := 1) rfl (zd_dr dc_Dr_scanDigits 27 rfl))) ?_
  refine zm_ac (om_pk nt_if_ne (ok_if_ne (l := l) (B := B) (y := m_Dr_scanDigits) (pc := 49) (zd_dr dc_Dr_scanDigits 28 rfl) (by decide))) ?_
  refine zm_ac (om_pk nt_aload (ok_aload_n (l := l) (B := B) (y := m_Dr_scanDigits) (pc := 52) (k := 0) rfl (zd_dr dc_Dr_scanDigits 29 rfl))) ?_
  refine zm_ac (ok_mgetf rfl (ok_getf (l := l) (B := B) (y := m_Dr_scanDigits) (pc := 53) hG (C := zR3) (T := zT3) (N := 8) (ci := 3) (k := 0) rfl zl3 (by decide) (List.mem_of_getElem? (i := 132) (by decide +kernel)) (zd_dr dc_Dr_scanDigits 30 rfl))) ?_
  refine zm_ac (om_pk nt_iload (ok_iload_n (l := l) (B := B) (y := m_Dr_scanDigits) (pc := 56) (k := 2) rfl (zd_dr dc_Dr_scanDigits 31 rfl))) ?_
  refine zm_ac (ok_mcaload (ok_caload (l := l) (B := B) (y := m_Dr_scanDigits) (pc := 57) hG (zd_dr dc_Dr_scanDigits 32 rfl))) ?_
  refine zm_ac (om_pk nt_ci (ok_bipush (l := l) (B := B) (y := m_Dr_scanDigits) (pc := 58) (n := (46)) (zd_dr dc_Dr_scanDigits 33 rfl) rfl)) ?_
  refine zm_ac (om_pk nt_icmp_ne (ok_icmp_ne (l := l) (B := B) (y := m_Dr_scanDigits) (pc := 60) (zd_dr dc_Dr_scanDigits 34 rfl) (by decide))) ?_
  refine zm_ac (om_pk nt_ci (ok_iconst (l := l) (B := B) (y := m_Dr_scanDigits) (pc := 63) (n := (1)) (zd_dr dc_Dr_scanDigits 35 rfl) rfl)) ?_
  refine zm_ac (om_pk nt_istore (ok_istore_n (l := l) (B := B) (y := m_Dr_scanDigits) (pc := 64) (k := 1) rfl (zd_dr dc_Dr_scanDigits 36 rfl) (by decide))) ?_
  refine zm_ac (om_pk nt_goto (ok_goto (l := l) (B := B) (y := m_Dr_scanDigits) (pc := 65) (zd_dr dc_Dr_scanDigits 37 rfl) (by decide))) ?_
  refine zm_ac (om_pk nt_aload (ok_aload_n (l := l) (B := B) (y := m_Dr_scanDigits) (pc := 68) (k := 0) rfl (zd_dr dc_Dr_scanDigits 38 rfl))) ?_
  refine zm_ac (om_pk nt_dup (ok_dup (l := l) (B := B) (y := m_Dr_scanDigits) (pc := 69) (zd_dr dc_Dr_scanDigits 39 rfl))) ?_
  refine zm_ac (ok_mgetf rfl (ok_getf (l := l) (B := B) (y := m_Dr_scanDigits) (pc := 70) hG (C := zR3) (T := zT3) (N := 8) (ci := 3) (k := 5) rfl zl3 (by decide) (List.mem_of_getElem? (i := 137) (by decide +kernel)) (zd_dr dc_Dr_scanDigits 40 rfl))) ?_
  refine zm_ac (om_pk nt_ci (ok_iconst (l := l) (B := B) (y := m_Dr_scanDigits) (pc := 73) (n := (1)) (zd_dr dc_Dr_scanDigits 41 rfl) rfl)) ?_
  refine zm_ac (om_pk nt_iadd (ok_iadd (l := l) (B := B) (y := m_Dr_scanDigits) (pc := 74) (zd_dr dc_Dr_scanDigits 42 rfl))) ?_
  refine zm_ac (ok_mputi rfl (ok_putf (l := l) (B := B) (y := m_Dr_scanDigits) (pc := 75) hG (C := zR3) (T := zT3) (N := 8) (ci := 3) (k := 5) rfl zl3 zt3 (by decide) (List.mem_of_getElem? (i := 137) (by decide +kernel)) rfl (zd_dr dc_Dr_scanDigits 43 rfl))) ?_
  refine zm_ac (om_pk nt_aload (ok_aload_n (l := l) (B := B) (y := m_Dr_scanDigits) (pc := 78) (k := 0) rfl (zd_dr dc_Dr_scanDigits 44 rfl))) ?_
  refine zm_ac (om_pk nt_dup (ok_dup (l := l) (B := B) (y := m_Dr_scanDigits) (pc := 79) (zd_dr dc_Dr_scanDigits 45 rfl))) ?_
  refine zm_ac (ok_mgetf rfl (ok_getf (l := l) (B := B) (y := m_Dr_scanDigits) (pc := 80) hG (C := zR3) (T := zT3) (N := 8) (ci := 3) (k := 6) rfl zl3 (by decide) (List.mem_of_getElem? (i := 138) (by decide +kernel)) (zd_dr dc_Dr_scanDigits 46 rfl))) ?_
  refine zm_ac (om_pk nt_iload (ok_iload_n (l := l) (B := B) (y := m_Dr_scanDigits) (pc := 83) (k := 1) rfl (zd_dr dc_Dr_scanDigits 47 rfl))) ?_
  refine zm_ac (om_pk nt_if_eq (ok_if_eq (l := l) (B := B) (y := m_Dr_scanDigits) (pc := 84) (zd_dr dc_Dr_scanDigits 48 rfl) (by decide))) ?_
  refine zm_ac (om_pk nt_ci (ok_iconst (l := l) (B := B) (y := m_Dr_scanDigits) (pc := 87) (n := (1)) (zd_dr dc_Dr_scanDigits 49 rfl) rfl)) ?_
  refine zm_ac (om_pk nt_goto (ok_goto (l := l) (B := B) (y := m_Dr_scanDigits) (pc := 88) (zd_dr dc_Dr_scanDigits 50 rfl) (by decide))) ?_
  refine zm_ac (om_pk nt_ci (ok_iconst (l := l) (B := B) (y := m_Dr_scanDigits) (pc := 91) (n := (0)) (zd_dr dc_Dr_scanDigits 51 rfl) rfl)) ?_
  refine zm_ac (om_pk nt_iadd (ok_iadd (l := l) (B := B) (y := m_Dr_scanDigits) (pc := 92) (zd_dr dc_Dr_scanDigits 52 rfl))) ?_
  refine zm_ac (ok_mputi rfl (ok_putf (l := l) (B := B) (y := m_Dr_scanDigits) (pc := 93) hG (C := zR3) (T := zT3) (N := 8) (ci := 3) (k := 6) rfl zl3 zt3 (by decide) (List.mem_of_getElem? (i := 138) (by decide +kernel)) rfl (zd_dr dc_Dr_scanDigits 53 rfl))) ?_
  refine zm_ac (om_pk nt_iinc (ok_iinc (l := l) (B := B) (y := m_Dr_scanDigits) (pc := 96) (zd_dr dc_Dr_scanDigits 54 rfl) (by decide) rfl)) ?_
  refine zm_ac (om_pk nt_goto (ok_goto (l := l) (B := B) (y := m_Dr_scanDigits) (pc := 99) (zd_dr dc_Dr_scanDigits 55 rfl) (by decide))) ?_
  refine zm_ac (om_pk nt_aload (ok_aload_n (l := l) (B := B) (y := m_Dr_scanDigits) (pc := 102) (k := 0) rfl (zd_dr dc_Dr_scanDigits 56 rfl))) ?_
  refine zm_ac (om_pk nt_iload (ok_iload_n (l := l) (B := B) (y := m_Dr_scanDigits) (pc := 103) (k := 2) rfl (zd_dr dc_Dr_scanDigits 57 rfl))) ?_
  refine zm_ac (ok_mputi rfl (ok_putf (l := l) (B := B) (y := m_Dr_scanDigits) (pc := 104) hG (C := zR3) (T := zT3) (N := 8) (ci := 3) (k := 4) rfl zl3 zt3 (by decide) (List.mem_of_getElem? (i := 136) (by decide +kernel)) rfl (zd_dr dc_Dr_scanDigits 58 rfl))) ?_
  refine zm_ac (ok_mvret (ok_vret (l := l) (B := B) (y := m_Dr_scanDigits) (pc := 107) rfl (zd_dr dc_Dr_scanDigits 59 rfl))) ?_
  exact zm_an
def dl_Dr_scanExponent : List (Nat × Instr × Nat) := [(0, .aload_n 0, 1), (1, .getfield 46, 3), (4, .iconst (1), 1), (5, .iadd, 1), (6, .istore_n 1, 1), (7, .aload_n 0, 1), (8, .getfield 9, 3), (11, .aload_n 0, 1), (12, .getfield 46, 3), (15, .caload, 1), (16, .bipush (101), 2), (18, .if_icmp .eq (19), 3), (21, .aload_n 0, 1), (22, .getfield 9, 3), (25, .aload_n 0, 1), (26, .getfield 46, 3), (29, .caload, 1), (30, .bipush (69), 2), (32, .if_icmp .eq (5), 3), (35, .iconst (0), 1), (36, .ireturn, 1), (37, .aload_n 0, 1), (38, .iload_n 1, 1), (39, .invokevirtual 25, 3), (42, .istore_n 2, 1), (43, .iload_n 2, 1), (44, .aload_n 0, 1), (45, .getfield 19, 3), (48, .if_icmp .ge (14), 3), (51, .aload_n 0, 1), (52, .getfield 19, 3), (55, .iload_n 2, 1), (56, .isub, 1), (57, .bipush (10), 2), (59, .if_icmp .le (5), 3), (62, .iconst (0), 1), (63, .ireturn, 1), (64, .lconst 0, 1), (65, .lstore_n 3, 1), (66, .iload_n 2, 1), (67, .istore 5, 2), (69, .iload 5, 2), (71, .aload_n 0, 1), (72, .getfield 19, 3), (75, .if_icmp .ge (42), 3), (78, .aload_n 0, 1), (79, .getfield 9, 3), (82, .iload 5, 2), (84, .caload, 1), (85, .invokestatic 56, 3), (88, .ifCond .ne (5), 3), (91, .iconst (0), 1), (92, .ireturn, 1), (93, .lload_n 3, 1), (94, .ldc2_w 60, 3), (97, .lmul, 1), (98, .aload_n 0, 1), (99, .getfield 9, 3), (102, .iload 5, 2), (104, .caload, 1), (105, .bipush (48), 2), (107, .isub, 1), (108, .i2l, 1), (109, .ladd, 1), (110, .lstore_n 3, 1), (111, .iinc 5 (1), 3), (114, .goto (-45), 3), (117, .aload_n 0, 1), (118, .iload_n 2, 1), (119, .iload_n 1, 1), (120, .if_icmp .le (19), 3), (123, .aload_n 0, 1), (124, .getfield 9, 3), (127, .iload_n 1, 1), (128, .caload, 1), (129, .bipush (45), 2), (131, .if_icmp .ne (8), 3), (134, .lload_n 3, 1), (135, .lneg, 1), (136, .goto (4), 3), (139, .lload_n 3, 1), (140, .putfield 39, 3), (143, .iconst (1), 1), (144, .ireturn, 1)]
theorem dc_Dr_scanExponent : ∀ q ∈ dl_Dr_scanExponent, decode (zd_yb m_Dr_scanExponent) q.1 = .ok q.2 := by decide +kernel
def cm_Dr_scanExponent (l : Launch) (B : zd_B) : List (Nat × zm_S) := [(0, om_p (oc_aload 0 1)), (1, om_getf gD 4 4), (4, om_p (oc_ci (1) 5)), (5, om_p (oc_iadd 6)), (6, om_p (oc_istore 1 7)), (7, om_p (oc_aload 0 8)), (8, om_getf gD 0 11), (11, om_p (oc_aload 0 12)), (12, om_getf gD 4 15), (15, om_ald gD 1 16), (16, om_p (oc_ci (101) 18)), (18, om_p (oc_icmp_eq 37 21)), (21, om_p (oc_aload 0 22)), (22, om_getf gD 0 25), (25, om_p (oc_aload 0 26)), (26, om_getf gD 4 29), (29, om_ald gD 1 30), (30, om_p (oc_ci (69) 32)), (32, om_p (oc_icmp_eq 37 35)), (35, om_p (oc_ci (0) 36)), (36, om_zret), (37, om_p (oc_aload 0 38)), (38, om_p (oc_iload 1 39)), (39, om_callv l B gD m_Dr_behindSign 1 42), (42, om_p (oc_istore 2 43)), (43, om_p (oc_iload 2 44)), (44, om_p (oc_aload 0 45)), (45, om_getf gD 1 48), (48, om_p (oc_icmp_ge 62 51)), (51, om_p (oc_aload 0 52)), (52, om_getf gD 1 55), (55, om_p (oc_iload 2 56)), (56, om_p (oc_isub 57)), (57, om_p (oc_ci (10) 59)), (59, om_p (oc_icmp_le 64 62)), (62, om_p (oc_ci (0) 63)), (63, om_zret), (64, om_p (oc_cl 0 65)), (65, om_p (oc_lstore 3 66)), (66, om_p (oc_iload 2 67)), (67, om_p (oc_istore 5 69)), (69, om_p (oc_iload 5 71)), (71, om_p (oc_aload 0 72)), (72, om_getf gD 1 75), (75, om_p (oc_icmp_ge 117 78)), (78, om_p (oc_aload 0 79)), (79, om_getf gD 0 82), (82, om_p (oc_iload 5 84)), (84, om_ald gD 1 85), (85, om_calls l B gD m_Dr_isDigit 1 88), (88, om_p (oc_if_ne 93 91)), (91, om_p (oc_ci (0) 92)), (92, om_zret), (93, om_p (oc_lload 3 94)), (94, om_p (oc_cl (10) 97)), (97, om_p (oc_lmul 98)), (98, om_p (oc_aload 0 99)), (99, om_getf gD 0 102), (102, om_p (oc_iload 5 104)), (104, om_ald gD 1 105), (105, om_p (oc_ci (48) 107)), (107, om_p (oc_isub 108)), (108, om_p (oc_i2l 109)), (109, om_p (oc_ladd 110)), (110, om_p (oc_lstore 3 111)), (111, om_p (oc_iinc 5 (1) 114)), (114, om_p (oc_goto 69)), (117, om_p (oc_aload 0 118)), (118, om_p (oc_iload 2 119)), (119, om_p (oc_iload 1 120)), (120, om_p (oc_icmp_le 139 123)), (123, om_p (oc_aload 0 124)), (124, om_getf gD 0 127), (127, om_p (oc_iload 1 128)), (128, om_ald gD 1 129), (129, om_p (oc_ci (45) 131)), (131, om_p (oc_icmp_ne 139 134)), (134, om_p (oc_lload 3 135)), (135, om_p (oc_lneg 136)), (136, om_p (oc_goto 140)), (139, om_p (oc_lload 3 140)), (140, om_putl gD 7 143), (143, om_p (oc_ci (1) 144)), (144, om_zret)]
set_option maxRecDepth 20000 in
theorem okm_Dr_scanExponent {l : Launch} {B : zd_B} (hG : zd_G B) (hl : l.stackTraces = false) : ∀ q ∈ cm_Dr_scanExponent l B, zm_ok l B gD m_Dr_scanExponent q.1 q.2 := by
  unfold cm_Dr_scanExponent
  refine zm_ac (om_pk nt_aload (ok_aload_n (l := l) (B := B) (y := m_Dr_scanExponent) (pc := 0) (k := 0) rfl (zd_dr dc_Dr_scanExponent 0 rfl))) ?_
  refine zm_ac (ok_mgetf rfl (ok_getf (l := l) (B := B) (y := m_Dr_scanExponent) (pc := 1) hG (C := zR3) (T := zT3) (N := 8) (ci := 3) (k := 4) rfl zl3 (by decide) (List.mem_of_getElem? (i := 136) (by decide +kernel)) (zd_dr dc_Dr_scanExponent 1 rfl))) ?_
  refine zm_ac (om_pk nt_ci (ok_iconst (l := l) (B := B) (y := m_Dr_scanExponent) (pc := 4) (n := (1)) (zd_dr dc_Dr_scanExponent 2 rfl) rfl)) ?_
  refine zm_ac (om_pk nt_iadd (ok_iadd (l := l) (B := B) (y := m_Dr_scanExponent) (pc := 5) (zd_dr dc_Dr_scanExponent 3 rfl))) ?_
  refine zm_ac (om_pk nt_istore (ok_istore_n (l := l) (B := B) (y := m_Dr_scanExponent) (pc := 6) (k := 1) rfl (zd_dr dc_Dr_scanExponent 4 rfl) (by decide))) ?_
  refine zm_ac (om_pk nt_aload (ok_aload_n (l := l) (B := B) (y := m_Dr_scanExponent) (pc := 7) (k := 0) rfl (zd_dr dc_Dr_scanExponent 5 rfl))) ?_
  refine zm_ac (ok_mgetf rfl (ok_getf (l := l) (B := B) (y := m_Dr_scanExponent) (pc := 8) hG (C := zR3) (T := zT3) (N := 8) (ci := 3) (k := 0) rfl zl3 (by decide) (List.mem_of_getElem? (i := 132) (by decide +kernel)) (zd_dr dc_Dr_scanExponent 6 rfl))) ?_
  refine zm_ac (om_pk nt_aload (ok_aload_n (l := l) (B := B) (y := m_Dr_scanExponent) (pc := 11) (k := 0) rfl (zd_dr dc_Dr_scanExponent 7 rfl))) ?_
  refine zm_ac (ok_mgetf rfl (ok_getf (l := l) (B := B) (y := m_Dr_scanExponent) (pc := 12) hG (C := zR3) (T := zT3) (N := 8) (ci := 3) (k := 4) rfl zl3 (by decide) (List.mem_of_getElem? (i := 136) (by decide +kernel)) (zd_dr dc_Dr_scanExponent 8 rfl))) ?_
  refine zm_ac (ok_mcaload (ok_caload (l := l) (B := B) (y := m_Dr_scanExponent) (pc := 15) hG (zd_dr dc_Dr_scanExponent 9 rfl))) ?_
  refine zm_ac (om_pk nt_ci (ok_bipush (l := l) (B := B) (y := m_Dr_scanExponent) (pc := 16) (n := (101)) (zd_dr dc_Dr_scanExponent 10 rfl) rfl)) ?_
  refine zm_ac (om_pk nt_icmp_eq (ok_icmp_eq (l := l) (B := B) (y := m_Dr_scanExponent) (pc := 18) (zd_dr dc_Dr_scanExponent 11 rfl) (by decide))) ?_
  refine zm_ac (om_pk nt_aload (ok_aload_n (l := l) (B := B) (y := m_Dr_scanExponent) (pc := 21) (k := 0) rfl (zd_dr dc_Dr_scanExponent 12 rfl))) ?_
  refine zm_ac (ok_mgetf rfl (ok_getf (l := l) (B := B) (y := m_Dr_scanExponent) (pc := 22) hG (C := zR3) (T := zT3) (N := 8) (ci := 3) (k := 0) rfl zl3 (by decide) (List.mem_of_getElem? (i := 132) (by decide +kernel)) (zd_dr dc_Dr_scanExponent 13 rfl))) ?_
  refine zm_ac (om_pk nt_aload (ok_aload_n (l := l) (B := B) (y := m_Dr_scanExponent) (pc := 25) (k := 0) rfl (zd_dr dc_Dr_scanExponent 14 rfl))) ?_
  refine zm_ac (ok_mgetf rfl (ok_getf (l := l) (B := B) (y := m_Dr_scanExponent) (pc := 26) hG (C := zR3) (T := zT3) (N := 8) (ci := 3) (k := 4) rfl zl3 (by decide) (List.mem_of_getElem? (i := 136) (by decide +kernel)) (zd_dr dc_Dr_scanExponent 15 rfl))) ?_
  refine zm_ac (ok_mcaload (ok_caload (l := l) (B := B) (y := m_Dr_scanExponent) (pc := 29) hG (zd_dr dc_Dr_scanExponent 16 rfl))) ?_
  refine zm_ac (om_pk nt_ci (ok_bipush (l := l) (B := B) (y := m_Dr_scanExponent) (pc := 30) (n := (69)) (zd_dr dc_Dr_scanExponent 17 rfl) rfl)) ?_
  refine zm_ac (om_pk nt_icmp_eq (ok_icmp_eq (l := l) (B := B) (y := m_Dr_scanExponent) (pc := 32) (zd_dr dc_Dr_scanExponent 18 rfl) (by decide))) ?_
  refine zm_ac (om_pk nt_ci (ok_iconst (l := l) (B := B) (y := m_Dr_scanExponent) (pc := 35) (n := (0)) (zd_dr dc_Dr_scanExponent 19 rfl) rfl)) ?_
  refine zm_ac (ok_mzret (ok_iret (l := l) (B := B) (y := m_Dr_scanExponent) (pc := 36) rfl (zd_dr dc_Dr_scanExponent 20 rfl))) ?_
  refine zm_ac (om_pk nt_aload (ok_aload_n (l := l) (B := B) (y := m_Dr_scanExponent) (pc := 37) (k := 0) rfl (zd_dr dc_Dr_scanExponent 21 rfl))) ?_
  refine zm_ac (om_pk nt_iload (ok_iload_n (l := l) (B := B) (y := m_Dr_scanExponent) (pc := 38) (k := 1) rfl (zd_dr dc_Dr_scanExponent 22 rfl))) ?_
  refine zm_ac (ok_mcallv rfl (ok_callv (l := l) (B := B) (y := m_Dr_scanExponent) (pc := 39) hG (ci := 3) rfl cf_Dr_scanExponent_Dr_behindSign rfl (List.mem_of_getElem? (i := 373) (by decide +kernel)) (List.mem_of_getElem? (i := 375) (by decide +kernel)) (List.mem_of_getElem? (i := 1) (by decide +kernel)) (zd_dr dc_Dr_scanExponent 23 rfl))) ?_
  refine zm_ac (om_pk nt_istore (ok_istore_n (l := l) (B := B) (y := m_Dr_scanExponent) (pc := 42) (k := 2) rfl (zd_dr dc_Dr_scanExponent 24 rfl) (by decide))) ?_
  refine zm_ac (om_pk nt_iload (ok_iload_n (l := l) (B := B) (y := m_Dr_scanExponent) (pc := 43) (k := 2) rfl (zd_dr dc_Dr_scanExponent 25 rfl))) ?_
  refine zm_ac (om_pk nt_aload (ok_aload_n (l := l) (B := B) (y := m_Dr_scanExponent) (pc := 44) (k := 0) rfl (zd_dr dc_Dr_scanExponent 26 rfl))) ?_
  refine zm_ac (ok_mgetf rfl (ok_getf (l := l) (B := B) (y := m_Dr_scanExponent) (pc := 45) hG (C := zR3) (T := zT3) (N := 8) (ci := 3) (k := 1) rfl zl3 (by decide) (List.mem_of_getElem? (i := 133) (by decide +kernel)) (zd_dr dc_Dr_scanExponent 27 rfl))) ?_
  refine zm_ac (om_pk nt_icmp_ge (ok_icmp_ge (l := l) (B := B) (y := m_Dr_scanExponent) (pc := 48) (zd_dr dc_Dr_scanExponent 28 rfl) (by decide))) ?_
  refine zm_ac (om_pk nt_aload (ok_aload_n (l := l) (B := B) (y := m_Dr_scanExponent) (pc := 51) (k := 0) rfl (zd_dr dc_Dr_scanExponent 29 rfl))) ?_
  refine zm_ac (ok_mgetf rfl (ok_getf (l := l) (B := B) (y := m_Dr_scanExponent) (pc := 52) hG (C := zR3) (T := zT3) (N := 8) (ci := 3) (k := 1) rfl zl3 (by decide) (List.mem_of_getElem? (i := 133) (by decide +kernel)) (zd_dr dc_Dr_scanExponent 30 rfl))) ?_
  refine zm_ac (om_pk nt_iload (ok_iload_n (l := l) (B := B) (y := m_Dr_scanExponent) (pc := 55) (k := 2) rfl (zd_dr dc_Dr_scanExponent 31 rfl))) ?_
  refine zm_ac (om_pk nt_isub (ok_isub (l := l) (B := B) (y := m_Dr_scanExponent) (pc := 56) (zd_dr dc_Dr_scanExponent 32 rfl))) ?_
  refine zm_ac (om_pk nt_ci (ok_bipush (l := l) (B := B) (y := m_Dr_scanExponent) (pc := 57) (n := (10)) (zd_dr dc_Dr_scanExponent 33 rfl) rfl)) ?_
  refine zm_ac (om_pk nt_icmp_le (ok_icmp_le (l := l) (B := B) (y := m_Dr_scanExponent) (pc := 59) (zd_dr dc_Dr_scanExponent 34 rfl) (by decide))) ?_
  refine zm_ac (om_pk nt_ci (ok_iconst (l := l) (B := B) (y := m_Dr_scanExponent) (pc := 62) (n := (0)) (zd_dr dc_Dr_scanExponent 35 rfl) rfl)) ?_
  refine zm_ac (ok_mzret (ok_iret (l := l) (B := B) (y := m_Dr_scanExponent) (pc := 63) rfl (zd_dr dc_Dr_scanExponent 36 rfl))) ?_
  refine zm_ac (om_pk nt_cl (ok_lconst (l := l) (B := B) (y := m_Dr_scanExponent) (pc := 64) (n := 0) (zd_dr dc_Dr_scanExponent 37 rfl) rfl)) ?_
  refine zm_ac (om_pk nt_lstore (ok_lstore_n (l := l) (B := B) (y := m_Dr_scanExponent) (pc := 65) (k := 3) rfl (zd_dr dc_Dr_scanExponent 38 rfl) (by decide))) ?_
  refine zm_ac (om_pk nt_iload (ok_iload_n (l := l) (B := B) (y := m_Dr_scanExponent) (pc := 66) (k := 2) rfl (zd_dr dc_Dr_scanExponent 39 rfl))) ?_
  refine zm_ac (om_pk nt_istore (ok_istore (l := l) (B := B) (y := m_Dr_scanExponent) (pc := 67) (zd_dr dc_Dr_scanExponent 40 rfl) (by decide))) ?_
  refine zm_ac (om_pk nt_iload (ok_iload (l := l) (B := B) (y := m_Dr_scanExponent) (pc := 69) (zd_dr dc_Dr_scanExponent 41 rfl))) ?_
  refine zm_ac (om_pk nt_aload (ok_aload_n (l := l) (B := B) (y := m_Dr_scanExponent) (pc := 71) (k := 0) rfl (zd_dr dc_Dr_scanExponent 42 rfl))) ?_
  refine zm_ac (ok_mgetf rfl (ok_getf (l := l) (B := B) (y := m_Dr_scanExponent) (pc := 72) hG (C := zR3) (T := zT3) (N := 8) (ci := 3) (k := 1) rfl zl3 (by decide) (List.mem_of_getElem? (i := 133) (by decide +kernel)) (zd_dr dc_Dr_scanExponent 43 rfl))) ?_
  refine zm_ac (om_pk nt_icmp_ge (ok_icmp_ge (l := l) (B := B) (y := m_Dr_scanExponent) (pc := 75) (zd_dr dc_Dr_scanExponent 44 rfl) (by decide))) ?_
  refine zm_ac (om_pk nt_aload (ok_aload_n (l := l) (B := B) (y := m_Dr_scanExponent) (pc := 78) (k := 0) rfl (zd_dr dc_Dr_scanExponent 45 rfl))) ?_
  refine zm_ac (ok_mgetf rfl (ok_getf (l := l) (B := B) (y := m_Dr_scanExponent) (pc := 79) hG (C := zR3) (T := zT3) (N := 8) (ci := 3) (k := 0) rfl zl3 (by decide) (List.mem_of_getElem? (i := 132) (by decide +kernel)) (zd_dr dc_Dr_scanExponent 46 rfl))) ?_
  refine zm_ac (om_pk nt_iload (ok_iload (l := l) (B := B) (y := m_Dr_scanExponent) (pc := 82) (zd_dr dc_Dr_scanExponent 47 rfl))) ?_
  refine zm_ac (ok_mcaload (ok_caload (l := l) (B := B) (y := m_Dr_scanExponent) (pc := 84) hG (zd_dr dc_Dr_scanExponent 48 rfl))) ?_
  refine zm_ac (ok_mcalls (ok_calls (l := l) (B := B) (y := m_Dr_scanExponent) (pc := 85) hG cf_Dr_scanExponent_Dr_isDigit rfl (List.mem_of_getElem? (i := 381) (by decide +kernel)) (List.mem_of_getElem? (i := 382) (by decide +kernel)) (List.mem_of_getElem? (i := 59) (by decide +kernel)) (zd_dr dc_Dr_scanExponent 49 rfl))) ?_
  refine zm_ac (om_pk nt_if_ne (ok_if_ne (l := l) (B := B) (y := m_Dr_scanExponent) (pc := 88) (zd_dr dc_Dr_scanExponent 50 rfl) (by decide))) ?_
  refine zm_ac (om_pk nt_ci (ok_iconst (l := l) (B := B) (y := m_Dr_scanExponent) (pc := 91) (n := (0)) (zd_dr dc_Dr_scanExponent 51 rfl) rfl)) ?_
  refine zm_ac (ok_mzret (ok_iret (l := l) (B := B) (y := m_Dr_scanExponent) (pc := 92) rfl (zd_dr dc_Dr_scanExponent 52 rfl))) ?_
  refine zm_ac (om_pk nt_lload (ok_lload_n (l := l) (B := B) (y := m_Dr_scanExponent) (pc := 93) (k := 3) rfl (zd_dr dc_Dr_scanExponent 53 rfl))) ?_
  refine zm_ac (om_pk nt_cl (ok_ldc2 (l := l) (B := B) (y := m_Dr_scanExponent) (pc := 94) hG (List.mem_of_getElem? (i := 388) (by decide +kernel)) (zd_dr dc_Dr_scanExponent 54 rfl))) ?_
  refine zm_ac (om_pk nt_lmul (ok_lmul (l := l) (B := B) (y := m_Dr_scanExponent) (pc := 97) (zd_dr dc_Dr_scanExponent 55 rfl))) ?_
  refine zm_ac (om_pk nt_aload (ok_aload_n (l := l) (B := B) (y := m_Dr_scanExponent) (pc := 98) (k := 0) rfl (zd_dr dc_Dr_scanExponent 56 rfl))) ?_
  refine zm_ac (ok_mgetf rfl (ok_getf (l := l) (B := B) (y := m_Dr_scanExponent) (pc := 99) hG (C := zR3) (T := zT3) (N := 8) (ci := 3) (k := 0) rfl zl3 (by decide) (List.mem_of_getElem? (i := 132) (by decide +kernel)) (zd_dr dc_Dr_scanExponent 57 rfl))) ?_
  refine zm_ac (om_pk nt_iload (ok_iload (l := l) (B := B) (y := m_Dr_scanExponent) (pc := 102) (zd_dr dc_Dr_scanExponent 58 rfl))) ?_
  refine zm_ac (ok_mcaload (ok_caload (l := l) (B := B) (y := m_Dr_scanExponent) (pc := 104) hG (zd_dr dc_Dr_scanExponent 59 rfl))) ?_
  refine zm_ac (om_pk nt_ci (ok_bipush (l := l) (B := B) (y := m_Dr_scanExponent) (pc := 105) (n := (48)) (zd_dr dc_Dr_scanExponent 60 rfl) rfl)) ?_
  refine zm_ac (om_pk nt_isub (ok_isub (l := l) (B := B) (y := m_Dr_scanExponent) (pc := 107) (zd_dr dc_Dr_scanExponent 61 rfl))) ?_
  refine zm_ac (om_pk nt_i2l (ok_i2l (l := l) (B := B) (y := m_Dr_scanExponent) (pc := 108) (zd_dr dc_Dr_scanExponent 62 rfl))) ?_
  refine zm_ac (om_pk nt_ladd (ok_ladd (l := l) (B := B) (y := m_Dr_scanExponent) (pc := 109) (zd_dr dc_Dr_scanExponent 63 rfl))) ?_
  refine zm_ac (om_pk nt_lstore (ok_lstore_n (l := l) (B := B) (y := m_Dr_scanExponent) (pc := 110) (k := 3) rfl (zd_dr dc_Dr_scanExponent 64 rfl) (by decide))) ?_
  refine zm_ac (om_pk nt_iinc (ok_iinc (l := l) (B := B) (y := m_Dr_scanExponent) (pc := 111) (zd_dr dc_Dr_scanExponent 65 rfl) (by decide) rfl)) ?_
  refine zm_ac (om_pk nt_goto (ok_goto (l := l) (B := B) (y := m_Dr_scanExponent) (pc := 114) (zd_dr dc_Dr_scanExponent 66 rfl) (by decide))) ?_
  refine zm_ac (om_pk nt_aload (ok_aload_n (l := l) (B := B) (y := m_Dr_scanExponent) (pc := 117) (k := 0) rfl (zd_dr dc_Dr_scanExponent 67 rfl))) ?_
  refine zm_ac (om_pk nt_iload (ok_iload_n (l := l) (B := B) (y := m_Dr_scanExponent) (pc := 118) (k := 2) rfl (zd_dr dc_Dr_scanExponent 68 rfl))) ?_
  refine zm_ac (om_pk nt_iload (ok_iload_n (l := l) (B := B) (y := m_Dr_scanExponent) (pc := 119) (k := 1) rfl (zd_dr dc_Dr_scanExponent 69 rfl))) ?_
  refine zm_ac (om_pk nt_icmp_le (ok_icmp_le (l := l) (B := B) (y := m_Dr_scanExponent) (pc := 120) (zd_dr dc_Dr_scanExponent 70 rfl) (by decide))) ?_
  refine zm_ac (om_pk nt_aload (ok_aload_n (l := l) (B := B) (y := m_Dr_scanExponent) (pc := 123) (k := 0) rfl (zd_dr dc_Dr_scanExponent 71 rfl))) ?_
  refine zm_ac (ok_mgetf rfl (ok_getf (l := l) (B := B) (y := m_Dr_scanExponent) (pc := 124) hG (C := zR3) (T := zT3) (N := 8) (ci := 3) (k := 0) rfl zl3 (by decide) (List.mem_of_getElem? (i := 132) (by decide +kernel)) (zd_dr dc_Dr_scanExponent 72 rfl))) ?_
  refine zm_ac (om_pk nt_iload (ok_iload_n (l := l) (B := B) (y := m_Dr_scanExponent) (pc := 127) (k := 1) rfl (zd_dr dc_Dr_scanExponent 73 rfl))) ?_
  refine zm_ac (ok_mcaload (ok_caload (l := l) (B := B) (y := m_Dr_scanExponent) (pc := 128) hG (zd_dr dc_Dr_scanExponent 74 rfl))) ?_
  refine zm_ac (om_pk nt_ci (ok_bipush (l := l) (B := B) (y := m_Dr_scanExponent) (pc := 129) (n := (45)) (zd_dr dc_Dr_scanExponent 75 rfl) rfl)) ?_
  refine zm_ac (om_pk nt_icmp_ne (ok_icmp_ne (l := l) (B := B) (y := m_Dr_scanExponent) (pc := 131) (zd_dr dc_Dr_scanExponent 76 rfl) (by decide))) ?_
  refine zm_ac (om_pk nt_lload (ok_lload_n (l := l) (B := B) (y := m_Dr_scanExponent) (pc := 134) (k := 3) rfl (zd_dr dc_Dr_scanExponent 77 rfl))) ?_
  refine zm_ac (om_pk nt_lneg (ok_lneg (l := l) (B := B) (y := m_Dr_scanExponent) (pc := 135) (zd_dr dc_Dr_scanExponent 78 rfl))) ?_
  refine zm_ac (om_pk nt_goto (ok_goto (l := l) (B := B) (y := m_Dr_scanExponent) (pc := 136) (zd_dr dc_Dr_scanExponent 79 rfl) (by decide))) ?_
  refine zm_ac (om_pk nt_lload (ok_lload_n (l := l) (B := B) (y := m_Dr_scanExponent) (pc := 139) (k := 3) rfl (zd_dr dc_Dr_scanExponent 80 rfl))) ?_
  refine zm_ac (ok_mputl rfl (ok_putf (l := l) (B := B) (y := m_Dr_scanExponent) (pc := 140) hG (C := zR3) (T := zT3) (N := 8) (ci := 3) (k := 7) rfl zl3 zt3 (by decide) (List.mem_of_getElem? (i := 139) (by decide +kernel)) rfl (zd_dr dc_Dr_scanExponent 81 rfl))) ?_
  refine zm_ac (om_pk nt_ci (ok_iconst (l := l) (B := B) (y := m_Dr_scanExponent) (pc := 143) (n := (1)) (zd_dr dc_Dr_scanExponent 82 rfl) rfl)) ?_
  refine zm_ac (ok_mzret (ok_iret (l := l) (B := B) (y := m_Dr_scanExponent) (pc := 144) rfl (zd_dr dc_Dr_scanExponent 83 rfl))) ?_
  exact zm_an
def dl_Dr_saysNegative : List (Nat × Instr × Nat) := [(0, .aload_n 0, 1), (1, .getfield 32, 3), (4, .ireturn, 1)]
theorem dc_Dr_saysNegative : ∀ q ∈ dl_Dr_saysNegative, decode (zd_yb m_Dr_saysNegative) q.1 = .ok q.2 := by decide +kernel
def cm_Dr_saysNegative (l : Launch) (B : zd_B) : List (Nat × zm_S) := [(0, om_p (oc_aload 0 1)), (1, om_getf gD 2 4), (4, om_zret)]
set_option maxRecDepth 20000 in
theorem okm_Dr_saysNegative {l : Launch} {B : zd_B} (hG : zd_G B) (hl : l.stackTraces = false) : ∀ q ∈ cm_Dr_saysNegative l B, zm_ok l B gD m_Dr_saysNegative q.1 q.2 := by
  unfold cm_Dr_saysNegative
  refine zm_ac (om_pk nt_aload (ok_aload_n (l := l) (B := B) (y := m_Dr_saysNegative) (pc := 0) (k := 0) rfl (zd_dr dc_Dr_saysNegative 0 rfl))) ?_
  refine zm_ac (ok_mgetf rfl (ok_getf (l := l) (B := B) (y := m_Dr_saysNegative) (pc := 1) hG (C := zR3) (T := zT3) (N := 8) (ci := 3) (k := 2) rfl zl3 (by decide) (List.mem_of_getElem? (i := 134) (by decide +kernel)) (zd_dr dc_Dr_saysNegative 1 rfl))) ?_
  refine zm_ac (ok_mzret (ok_iret (l := l) (B := B) (y := m_Dr_saysNegative) (pc := 4) rfl (zd_dr dc_Dr_saysNegative 2 rfl))) ?_
  exact zm_an
def dl_Dr_saidScale : List (Nat × Instr × Nat) := [(0, .aload_n 0, 1), (1, .getfield 53, 3), (4, .i2l, 1), (5, .aload_n 0, 1), (6, .getfield 39, 3), (9, .lsub, 1), (10, .lreturn, 1)]
theorem dc_Dr_saidScale : ∀ q ∈ dl_Dr_saidScale, decode (zd_yb m_Dr_saidScale) q.1 = .ok q.2 := by decide +kernel
def cm_Dr_saidScale (l : Launch) (B : zd_B) : List (Nat × zm_S) := [(0, om_p (oc_aload 0 1)), (1, om_getf gD 6 4), (4, om_p (oc_i2l 5)), (5, om_p (oc_aload 0 6)), (6, om_getf gD 7 9), (9, om_p (oc_lsub 10)), (10, om_lret)]
set_option maxRecDepth 20000 in
theorem okm_Dr_saidScale {l : Launch} {B : zd_B} (hG : zd_G B) (hl : l.stackTraces = false) : ∀ q ∈ cm_Dr_saidScale l B, zm_ok l B gD m_Dr_saidScale q.1 q.2 := by
  unfold cm_Dr_saidScale
  refine zm_ac (om_pk nt_aload (ok_aload_n (l := l) (B := B) (y := m_Dr_saidScale) (pc := 0) (k := 0) rfl (zd_dr dc_Dr_saidScale 0 rfl))) ?_
  refine zm_ac (ok_mgetf rfl (ok_getf (l := l) (B := B) (y := m_Dr_saidScale) (pc := 1) hG (C := zR3) (T := zT3) (N := 8) (ci := 3) (k := 6) rfl zl3 (by decide) (List.mem_of_getElem? (i := 138) (by decide +kernel)) (zd_dr dc_Dr_saidScale 1 rfl))) ?_
  refine zm_ac (om_pk nt_i2l (ok_i2l (l := l) (B := B) (y := m_Dr_saidScale) (pc := 4) (zd_dr dc_Dr_saidScale 2 rfl))) ?_
  refine zm_ac (om_pk nt_aload (ok_aload_n (l := l) (B := B) (y := m_Dr_saidScale) (pc := 5) (k := 0) rfl (zd_dr dc_Dr_saidScale 3 rfl))) ?_
  refine zm_ac (ok_mgetf rfl (ok_getf (l := l) (B := B) (y := m_Dr_saidScale) (pc := 6) hG (C := zR3) (T := zT3) (N := 8) (ci := 3) (k := 7) rfl zl3 (by decide) (List.mem_of_getElem? (i := 139) (by decide +kernel)) (zd_dr dc_Dr_saidScale 4 rfl))) ?_
  refine zm_ac (om_pk nt_lsub (ok_lsub (l := l) (B := B) (y := m_Dr_saidScale) (pc := 9) (zd_dr dc_Dr_saidScale 5 rfl))) ?_
  refine zm_ac (ok_mlret (ok_lret (l := l) (B := B) (y := m_Dr_saidScale) (pc := 10) rfl (zd_dr dc_Dr_saidScale 6 rfl))) ?_
  exact zm_an

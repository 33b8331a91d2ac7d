/-! written by gencode.py: code of the constructors -/
theorem cf_De_init_Dc_init : zd_cf m_De_init m_Dc_init 0 := ⟨(List.mem_of_getElem? (i := 88) (by decide +kernel)), by decide +kernel, by decide, by decide, ⟨by decide, by decide⟩, by decide +kernel⟩
theorem cf_De_init_Dr_init : zd_cf m_De_init m_Dr_init 0 := ⟨(List.mem_of_getElem? (i := 130) (by decide +kernel)), by decide +kernel, by decide, by decide, ⟨by decide, by decide⟩, by decide +kernel⟩
theorem cf_De_init_Dv_init : zd_cf m_De_init m_Dv_init 0 := ⟨(List.mem_of_getElem? (i := 175) (by decide +kernel)), by decide +kernel, by decide, by decide, ⟨by decide, by decide⟩, by decide +kernel⟩
theorem cf_De_init_Na_init : zd_cf m_De_init m_Na_init 1 := ⟨(List.mem_of_getElem? (i := 94) (by decide +kernel)), by decide +kernel, by decide, by decide, ⟨by decide, by decide⟩, by decide +kernel⟩
theorem cf_De_init_Ro_init : zd_cf m_De_init m_Ro_init 1 := ⟨(List.mem_of_getElem? (i := 187) (by decide +kernel)), by decide +kernel, by decide, by decide, ⟨by decide, by decide⟩, by decide +kernel⟩
theorem cf_De_init_Ru_init : zd_cf m_De_init m_Ru_init 0 := ⟨(List.mem_of_getElem? (i := 208) (by decide +kernel)), by decide +kernel, by decide, by decide, ⟨by decide, by decide⟩, by decide +kernel⟩
theorem cf_De_init_Te_init : zd_cf m_De_init m_Te_init 0 := ⟨(List.mem_of_getElem? (i := 162) (by decide +kernel)), by decide +kernel, by decide, by decide, ⟨by decide, by decide⟩, by decide +kernel⟩
def dl_De_init : List (Nat × Instr × Nat) := [(0, .aload_n 0, 1), (1, .invokespecial 3, 3), (4, .aload_n 0, 1), (5, .bipush (10), 2), (7, .anewarray 9, 3), (10, .putfield 11, 3), (13, .iconst (0), 1), (14, .istore_n 1, 1), (15, .iload_n 1, 1), (16, .bipush (10), 2), (18, .if_icmp .ge (22), 3), (21, .aload_n 0, 1), (22, .getfield 11, 3), (25, .iload_n 1, 1), (26, .new 9, 3), (29, .dup, 1), (30, .invokespecial 15, 3), (33, .aastore, 1), (34, .iinc 1 (1), 3), (37, .goto (-22), 3), (40, .aload_n 0, 1), (41, .new 16, 3), (44, .dup, 1), (45, .invokespecial 18, 3), (48, .putfield 19, 3), (51, .aload_n 0, 1), (52, .new 23, 3), (55, .dup, 1), (56, .invokespecial 25, 3), (59, .putfield 26, 3), (62, .aload_n 0, 1), (63, .new 30, 3), (66, .dup, 1), (67, .invokespecial 32, 3), (70, .putfield 33, 3), (73, .aload_n 0, 1), (74, .new 37, 3), (77, .dup, 1), (78, .aload_n 0, 1), (79, .getfield 33, 3), (82, .invokespecial 39, 3), (85, .putfield 42, 3), (88, .aload_n 0, 1), (89, .new 46, 3), (92, .dup, 1), (93, .invokespecial 48, 3), (96, .putfield 49, 3), (99, .aload_n 0, 1), (100, .new 53, 3), (103, .dup, 1), (104, .sipush (226), 3), (107, .invokespecial 55, 3), (110, .putfield 58, 3), (113, .aload_n 0, 1), (114, .new 53, 3), (117, .dup, 1), (118, .sipush (226), 3), (121, .invokespecial 55, 3), (124, .putfield 62, 3), (127, .return_, 1)]
theorem dc_De_init : ∀ q ∈ dl_De_init, decode (zd_yb m_De_init) q.1 = .ok q.2 := by decide +kernel
def cd_De_init (l : Launch) (B : zd_B) : List (Nat × zd_S) := [(0, oc_aload 0 1), (1, oc_oinit 4), (4, oc_aload 0 5), (5, oc_ci (10) 7), (7, oc_anew B 10), (10, oc_putf B (zy0 0) 0 0 13), (13, oc_ci (0) 14), (14, oc_istore 1 15), (15, oc_iload 1 16), (16, oc_ci (10) 18), (18, oc_icmp_ge 40 21), (21, oc_aload 0 22), (22, oc_getf B 0 0 25), (25, oc_iload 1 26), (26, oc_new B 1 3 [.null, .int 0, .int 0] 29), (29, oc_dup 30), (30, oc_calli l B m_Dc_init 0 33), (33, oc_aastore B 34), (34, oc_iinc 1 (1) 37), (37, oc_goto 15), (40, oc_aload 0 41), (41, oc_new B 3 8 [.null, .int 0, .int 0, .int 0, .int 0, .int 0, .int 0, .long 0] 44), (44, oc_dup 45), (45, oc_calli l B m_Dr_init 0 48), (48, oc_putf B (zy0 1) 0 1 51), (51, oc_aload 0 52), (52, oc_new B 7 2 [.null, .int 0] 55), (55, oc_dup 56), (56, oc_calli l B m_Te_init 0 59), (59, oc_putf B (zy0 2) 0 2 62), (62, oc_aload 0 63), (63, oc_new B 2 1 [.null] 66), (66, oc_dup 67), (67, oc_calli l B m_Dv_init 0 70), (70, oc_putf B (zy0 3) 0 3 73), (73, oc_aload 0 74), (74, oc_new B 5 4 [.null, .null, .null, .null] 77), (77, oc_dup 78), (78, oc_aload 0 79), (79, oc_getf B 0 3 82), (82, oc_calli l B m_Ro_init 1 85), (85, oc_putf B (zy0 4) 0 4 88), (88, oc_aload 0 89), (89, oc_new B 6 4 [.null, .int 0, .int 0, .int 0] 92), (92, oc_dup 93), (93, oc_calli l B m_Ru_init 0 96), (96, oc_putf B (zy0 5) 0 5 99), (99, oc_aload 0 100), (100, oc_new B 4 2 [.null, .int 0] 103), (103, oc_dup 104), (104, oc_ci (226) 107), (107, oc_calli l B m_Na_init 1 110), (110, oc_putf B (zy0 6) 0 6 113), (113, oc_aload 0 114), (114, oc_new B 4 2 [.null, .int 0] 117), (117, oc_dup 118), (118, oc_ci (226) 121), (121, oc_calli l B m_Na_init 1 124), (124, oc_putf B (zy0 7) 0 7 127), (127, oc_vret)]
set_option maxRecDepth 20000 in
theorem ok_De_init {l : Launch} {B : zd_B} (hG : zd_G B) (hl : l.stackTraces = false) : ∀ q ∈ cd_De_init l B, zd_ok l B m_De_init q.1 q.2 := by
  unfold cd_De_init
  refine zd_ac (ok_aload_n (l := l) (B := B) (y := m_De_init) (pc := 0) (k := 0) rfl (zd_dr dc_De_init 0 rfl)) ?_
  refine zd_ac (ok_oinit (l := l) (B := B) (y := m_De_init) (pc := 1) hG (List.mem_of_getElem? (i := 80) (by decide +kernel)) (List.mem_of_getElem? (i := 81) (by decide +kernel)) (List.mem_of_getElem? (i := 82) (by decide +kernel)) (by decide) (by decide) (zd_dr dc_De_init 1 rfl)) ?_
  refine zd_ac (ok_aload_n (l := l) (B := B) (y := m_De_init) (pc := 4) (k := 0) rfl (zd_dr dc_De_init 2 rfl)) ?_
  refine zd_ac (ok_bipush (l := l) (B := B) (y := m_De_init) (pc := 5) (n := (10)) (zd_dr dc_De_init 3 rfl) rfl) ?_
  refine zd_ac (ok_anew (l := l) (B := B) (y := m_De_init) (pc := 7) hG (List.mem_of_getElem? (i := 83) (by decide +kernel)) (List.mem_of_getElem? (i := 84) (by decide +kernel)) (zd_dr dc_De_init 4 rfl)) ?_
  refine zd_ac (ok_putfF (l := l) (B := B) (y := m_De_init) (pc := 10) hG (C := zR0) (T := zT0) (N := 8) (ci := 0) (k := 0) rfl zl0 zt0 (by decide) (List.mem_of_getElem? (i := 234) (by decide +kernel)) rfl rfl rfl (zd_dr dc_De_init 5 rfl)) ?_
  refine zd_ac (ok_iconst (l := l) (B := B) (y := m_De_init) (pc := 13) (n := (0)) (zd_dr dc_De_init 6 rfl) rfl) ?_
  refine zd_ac (ok_istore_n (l := l) (B := B) (y := m_De_init) (pc := 14) (k := 1) rfl (zd_dr dc_De_init 7 rfl) (by decide)) ?_
  refine zd_ac (ok_iload_n (l := l) (B := B) (y := m_De_init) (pc := 15) (k := 1) rfl (zd_dr dc_De_init 8 rfl)) ?_
  refine zd_ac (ok_bipush (l := l) (B := B) (y := m_De_init) (pc := 16) (n := (10)) (zd_dr dc_De_init 9 rfl) rfl) ?_
  refine zd_ac (ok_icmp_ge (l := l) (B := B) (y := m_De_init) (pc := 18) (zd_dr dc_De_init 10 rfl) (by decide)) ?_
  refine zd_ac (ok_aload_n (l := l) (B := B) (y := m_De_init) (pc := 21) (k := 0) rfl (zd_dr dc_De_init 11 rfl)) ?_
  refine zd_ac (ok_getf (l := l) (B := B) (y := m_De_init) (pc := 22) hG (C := zR0) (T := zT0) (N := 8) (ci := 0) (k := 0) rfl zl0 (by decide) (List.mem_of_getElem? (i := 234) (by decide +kernel)) (zd_dr dc_De_init 12 rfl)) ?_
  refine zd_ac (ok_iload_n (l := l) (B := B) (y := m_De_init) (pc := 25) (k := 1) rfl (zd_dr dc_De_init 13 rfl)) ?_
  refine zd_ac (ok_new (l := l) (B := B) (y := m_De_init) (pc := 26) hG (C := zR1) (T := zT1) (ty := zy1) (N := 3) rfl zl1 zt1 (List.mem_of_getElem? (i := 83) (by decide +kernel)) (List.mem_of_getElem? (i := 85) (by decide +kernel)) (List.mem_of_getElem? (i := 57) (by decide +kernel)) (by decide) (zd_dr dc_De_init 14 rfl)) ?_
  refine zd_ac (ok_dup (l := l) (B := B) (y := m_De_init) (pc := 29) (zd_dr dc_De_init 15 rfl)) ?_
  refine zd_ac (ok_calliN (l := l) (B := B) (y := m_De_init) (pc := 30) (host := "DecimalDesk") hG cf_De_init_Dc_init rfl rfl rfl rfl (List.mem_of_getElem? (i := 86) (by decide +kernel)) (List.mem_of_getElem? (i := 87) (by decide +kernel)) (zd_dr dc_De_init 16 rfl)) ?_
  refine zd_ac (ok_aastore (l := l) (B := B) (y := m_De_init) (pc := 33) hG (zd_dr dc_De_init 17 rfl)) ?_
  refine zd_ac (ok_iinc (l := l) (B := B) (y := m_De_init) (pc := 34) (zd_dr dc_De_init 18 rfl) (by decide) rfl) ?_
  refine zd_ac (ok_goto (l := l) (B := B) (y := m_De_init) (pc := 37) (zd_dr dc_De_init 19 rfl) (by decide)) ?_
  refine zd_ac (ok_aload_n (l := l) (B := B) (y := m_De_init) (pc := 40) (k := 0) rfl (zd_dr dc_De_init 20 rfl)) ?_
  refine zd_ac (ok_new (l := l) (B := B) (y := m_De_init) (pc := 41) hG (C := zR3) (T := zT3) (ty := zy3) (N := 8) rfl zl3 zt3 (List.mem_of_getElem? (i := 126) (by decide +kernel)) (List.mem_of_getElem? (i := 127) (by decide +kernel)) (List.mem_of_getElem? (i := 59) (by decide +kernel)) (by decide) (zd_dr dc_De_init 21 rfl)) ?_
  refine zd_ac (ok_dup (l := l) (B := B) (y := m_De_init) (pc := 44) (zd_dr dc_De_init 22 rfl)) ?_
  refine zd_ac (ok_calliN (l := l) (B := B) (y := m_De_init) (pc := 45) (host := "DecimalDesk") hG cf_De_init_Dr_init rfl rfl rfl rfl (List.mem_of_getElem? (i := 128) (by decide +kernel)) (List.mem_of_getElem? (i := 129) (by decide +kernel)) (zd_dr dc_De_init 23 rfl)) ?_
  refine zd_ac (ok_putfF (l := l) (B := B) (y := m_De_init) (pc := 48) hG (C := zR0) (T := zT0) (N := 8) (ci := 0) (k := 1) rfl zl0 zt0 (by decide) (List.mem_of_getElem? (i := 235) (by decide +kernel)) rfl rfl rfl (zd_dr dc_De_init 24 rfl)) ?_
  refine zd_ac (ok_aload_n (l := l) (B := B) (y := m_De_init) (pc := 51) (k := 0) rfl (zd_dr dc_De_init 25 rfl)) ?_
  refine zd_ac (ok_new (l := l) (B := B) (y := m_De_init) (pc := 52) hG (C := zR7) (T := zT7) (ty := zy7) (N := 2) rfl zl7 zt7 (List.mem_of_getElem? (i := 158) (by decide +kernel)) (List.mem_of_getElem? (i := 159) (by decide +kernel)) (List.mem_of_getElem? (i := 60) (by decide +kernel)) (by decide) (zd_dr dc_De_init 26 rfl)) ?_
  refine zd_ac (ok_dup (l := l) (B := B) (y := m_De_init) (pc := 55) (zd_dr dc_De_init 27 rfl)) ?_
  refine zd_ac (ok_calliN (l := l) (B := B) (y := m_De_init) (pc := 56) (host := "DecimalDesk") hG cf_De_init_Te_init rfl rfl rfl rfl (List.mem_of_getElem? (i := 160) (by decide +kernel)) (List.mem_of_getElem? (i := 161) (by decide +kernel)) (zd_dr dc_De_init 28 rfl)) ?_
  refine zd_ac (ok_putfF (l := l) (B := B) (y := m_De_init) (pc := 59) hG (C := zR0) (T := zT0) (N := 8) (ci := 0) (k := 2) rfl zl0 zt0 (by decide) (List.mem_of_getElem? (i := 236) (by decide +kernel)) rfl rfl rfl (zd_dr dc_De_init 29 rfl)) ?_
  refine zd_ac (ok_aload_n (l := l) (B := B) (y := m_De_init) (pc := 62) (k := 0) rfl (zd_dr dc_De_init 30 rfl)) ?_
  refine zd_ac (ok_new (l := l) (B := B) (y := m_De_init) (pc := 63) hG (C := zR2) (T := zT2) (ty := zy2) (N := 1) rfl zl2 zt2 (List.mem_of_getElem? (i := 171) (by decide +kernel)) (List.mem_of_getElem? (i := 172) (by decide +kernel)) (List.mem_of_getElem? (i := 61) (by decide +kernel)) (by decide) (zd_dr dc_De_init 31 rfl)) ?_
  refine zd_ac (ok_dup (l := l) (B := B) (y := m_De_init) (pc := 66) (zd_dr dc_De_init 32 rfl)) ?_
  refine zd_ac (ok_calliN (l := l) (B := B) (y := m_De_init) (pc := 67) (host := "DecimalDesk") hG cf_De_init_Dv_init rfl rfl rfl rfl (List.mem_of_getElem? (i := 173) (by decide +kernel)) (List.mem_of_getElem? (i := 174) (by decide +kernel)) (zd_dr dc_De_init 33 rfl)) ?_
  refine zd_ac (ok_putfF (l := l) (B := B) (y := m_De_init) (pc := 70) hG (C := zR0) (T := zT0) (N := 8) (ci := 0) (k := 3) rfl zl0 zt0 (by decide) (List.mem_of_getElem? (i := 237) (by decide +kernel)) rfl rfl rfl (zd_dr dc_De_init 34 rfl)) ?_
  refine zd_ac (ok_aload_n (l := l) (B := B) (y := m_De_init) (pc := 73) (k := 0) rfl (zd_dr dc_De_init 35 rfl)) ?_
  refine zd_ac (ok_new (l := l) (B := B) (y := m_De_init) (pc := 74) hG (C := zR5) (T := zT5) (ty := zy5) (N := 4) rfl zl5 zt5 (List.mem_of_getElem? (i := 183) (by decide +kernel)) (List.mem_of_getElem? (i := 184) (by decide +kernel)) (List.mem_of_getElem? (i := 62) (by decide +kernel)) (by decide) (zd_dr dc_De_init 36 rfl)) ?_
  refine zd_ac (ok_dup (l := l) (B := B) (y := m_De_init) (pc := 77) (zd_dr dc_De_init 37 rfl)) ?_
  refine zd_ac (ok_aload_n (l := l) (B := B) (y := m_De_init) (pc := 78) (k := 0) rfl (zd_dr dc_De_init 38 rfl)) ?_
  refine zd_ac (ok_getf (l := l) (B := B) (y := m_De_init) (pc := 79) hG (C := zR0) (T := zT0) (N := 8) (ci := 0) (k := 3) rfl zl0 (by decide) (List.mem_of_getElem? (i := 237) (by decide +kernel)) (zd_dr dc_De_init 39 rfl)) ?_
  refine zd_ac (ok_calli (l := l) (B := B) (y := m_De_init) (pc := 82) hG cf_De_init_Ro_init rfl rfl rfl rfl (List.mem_of_getElem? (i := 185) (by decide +kernel)) (List.mem_of_getElem? (i := 186) (by decide +kernel)) (zd_dr dc_De_init 40 rfl)) ?_
  refine zd_ac (ok_putfF (l := l) (B := B) (y := m_De_init) (pc := 85) hG (C := zR0) (T := zT0) (N := 8) (ci := 0) (k := 4) rfl zl0 zt0 (by decide) (List.mem_of_getElem? (i := 238) (by decide +kernel)) rfl rfl rfl (zd_dr dc_De_init 41 rfl)) ?_
  refine zd_ac (ok_aload_n (l := l) (B := B) (y := m_De_init) (pc := 88) (k := 0) rfl (zd_dr dc_De_init 42 rfl)) ?_
  refine zd_ac (ok_new (l := l) (B := B) (y := m_De_init) (pc := 89) hG (C := zR6) (T := zT6) (ty := zy6) (N := 4) rfl zl6 zt6 (List.mem_of_getElem? (i := 204) (by decide +kernel)) (List.mem_of_getElem? (i := 205) (by decide +kernel)) (List.mem_of_getElem? (i := 63) (by decide +kernel)) (by decide) (zd_dr dc_De_init 43 rfl)) ?_
  refine zd_ac (ok_dup (l := l) (B := B) (y := m_De_init) (pc := 92) (zd_dr dc_De_init 44 rfl)) ?_
  refine zd_ac (ok_calliN (l := l) (B := B) (y := m_De_init) (pc := 93) (host := "DecimalDesk") hG cf_De_init_Ru_init rfl rfl rfl rfl (List.mem_of_getElem? (i := 206) (by decide +kernel)) (List.mem_of_getElem? (i := 207) (by decide +kernel)) (zd_dr dc_De_init 45 rfl)) ?_
  refine zd_ac (ok_putfF (l := l) (B := B) (y := m_De_init) (pc := 96) hG (C := zR0) (T := zT0) (N := 8) (ci := 0) (k := 5) rfl zl0 zt0 (by decide) (List.mem_of_getElem? (i := 239) (by decide +kernel)) rfl rfl rfl (zd_dr dc_De_init 46 rfl)) ?_
  refine zd_ac (ok_aload_n (l := l) (B := B) (y := m_De_init) (pc := 99) (k := 0) rfl (zd_dr dc_De_init 47 rfl)) ?_
  refine zd_ac (ok_new (l := l) (B := B) (y := m_De_init) (pc := 100) hG (C := zR4) (T := zT4) (ty := zy4) (N := 2) rfl zl4 zt4 (List.mem_of_getElem? (i := 232) (by decide +kernel)) (List.mem_of_getElem? (i := 91) (by decide +kernel)) (List.mem_of_getElem? (i := 58) (by decide +kernel)) (by decide) (zd_dr dc_De_init 48 rfl)) ?_
  refine zd_ac (ok_dup (l := l) (B := B) (y := m_De_init) (pc := 103) (zd_dr dc_De_init 49 rfl)) ?_
  refine zd_ac (ok_sipush (l := l) (B := B) (y := m_De_init) (pc := 104) (n := (226)) (zd_dr dc_De_init 50 rfl) rfl) ?_
  refine zd_ac (ok_calli (l := l) (B := B) (y := m_De_init) (pc := 107) hG cf_De_init_Na_init rfl rfl rfl rfl (List.mem_of_getElem? (i := 233) (by decide +kernel)) (List.mem_of_getElem? (i := 93) (by decide +kernel)) (zd_dr dc_De_init 51 rfl)) ?_
  refine zd_ac (ok_putfF (l := l) (B := B) (y := m_De_init) (pc := 110) hG (C := zR0) (T := zT0) (N := 8) (ci := 0) (k := 6) rfl zl0 zt0 (by decide) (List.mem_of_getElem? (i := 240) (by decide +kernel)) rfl rfl rfl (zd_dr dc_De_init 52 rfl)) ?_
  refine zd_ac (ok_aload_n (l := l) (B := B) (y := m_De_init) (pc := 113) (k := 0) rfl (zd_dr dc_De_init 53 rfl)) ?_
  refine zd_ac (ok_new (l := l) (B := B) (y := m_De_init) (pc := 114) hG (C := zR4) (T := zT4) (ty := zy4) (N := 2) rfl zl4 zt4 (List.mem_of_getElem? (i := 232) (by decide +kernel)) (List.mem_of_getElem? (i := 91) (by decide +kernel)) (List.mem_of_getElem? (i := 58) (by decide +kernel)) (by decide) (zd_dr dc_De_init 54 rfl)) ?_
  refine zd_ac (ok_dup (l := l) (B := B) (y := m_De_init) (pc := 117) (zd_dr dc_De_init 55 rfl)) ?_
  refine zd_ac (ok_sipush (l := l) (B := B) (y := m_De_init) (pc := 118) (n := (226)) (zd_dr dc_De_init 56 rfl) rfl) ?_
  refine zd_ac (ok_calli (l := l) (B := B) (y := m_De_init) (pc := 121) hG cf_De_init_Na_init rfl rfl rfl rfl (List.mem_of_getElem? (i := 233) (by decide +kernel)) (List.mem_of_getElem? (i := 93) (by decide +kernel)) (zd_dr dc_De_init 57 rfl)) ?_
  refine zd_ac (ok_putfF (l := l) (B := B) (y := m_De_init) (pc := 124) hG (C := zR0) (T := zT0) (N := 8) (ci := 0) (k := 7) rfl zl0 zt0 (by decide) (List.mem_of_getElem? (i := 241) (by decide +kernel)) rfl rfl rfl (zd_dr dc_De_init 58 rfl)) ?_
  refine zd_ac (ok_vret (l := l) (B := B) (y := m_De_init) (pc := 127) rfl (zd_dr dc_De_init 59 rfl)) ?_
  exact zd_an
def dl_Mo_init : List (Nat × Instr × Nat) := [(0, .aload_n 0, 1), (1, .invokespecial 1, 3), (4, .aload_n 0, 1), (5, .sipush (1100), 3), (8, .newarray .int, 2), (10, .putfield 7, 3), (13, .aload_n 0, 1), (14, .sipush (10000), 3), (17, .newarray .int, 2), (19, .putfield 13, 3), (22, .aload_n 0, 1), (23, .bipush (10), 2), (25, .newarray .int, 2), (27, .putfield 16, 3), (30, .aload_n 0, 1), (31, .bipush (10), 2), (33, .newarray .boolean, 2), (35, .putfield 19, 3), (38, .aload_n 0, 1), (39, .bipush (10), 2), (41, .newarray .int, 2), (43, .putfield 23, 3), (46, .aload_n 0, 1), (47, .sipush (4400), 3), (50, .newarray .int, 2), (52, .putfield 26, 3), (55, .aload_n 0, 1), (56, .sipush (4400), 3), (59, .newarray .int, 2), (61, .putfield 29, 3), (64, .aload_n 0, 1), (65, .sipush (2200), 3), (68, .newarray .int, 2), (70, .putfield 32, 3), (73, .aload_n 0, 1), (74, .sipush (2202), 3), (77, .newarray .int, 2), (79, .putfield 35, 3), (82, .aload_n 0, 1), (83, .sipush (12200), 3), (86, .newarray .int, 2), (88, .putfield 38, 3), (91, .iconst (0), 1), (92, .istore_n 1, 1), (93, .iload_n 1, 1), (94, .bipush (10), 2), (96, .if_icmp .ge (16), 3), (99, .aload_n 0, 1), (100, .getfield 16, 3), (103, .iload_n 1, 1), (104, .iconst (1), 1), (105, .iastore, 1), (106, .iinc 1 (1), 3), (109, .goto (-16), 3), (112, .return_, 1)]
theorem dc_Mo_init : ∀ q ∈ dl_Mo_init, decode (zd_yb m_Mo_init) q.1 = .ok q.2 := by decide +kernel
def cd_Mo_init (l : Launch) (B : zd_B) : List (Nat × zd_S) := [(0, oc_aload 0 1), (1, oc_oinit 4), (4, oc_aload 0 5), (5, oc_ci (1100) 8), (8, oc_newa B 0 10), (10, oc_putf B (zy8 1) 8 1 13), (13, oc_aload 0 14), (14, oc_ci (10000) 17), (17, oc_newa B 0 19), (19, oc_putf B (zy8 3) 8 3 22), (22, oc_aload 0 23), (23, oc_ci (10) 25), (25, oc_newa B 0 27), (27, oc_putf B (zy8 4) 8 4 30), (30, oc_aload 0 31), (31, oc_ci (10) 33), (33, oc_newa B 2 35), (35, oc_putf B (zy8 5) 8 5 38), (38, oc_aload 0 39), (39, oc_ci (10) 41), (41, oc_newa B 0 43), (43, oc_putf B (zy8 6) 8 6 46), (46, oc_aload 0 47), (47, oc_ci (4400) 50), (50, oc_newa B 0 52), (52, oc_putf B (zy8 7) 8 7 55), (55, oc_aload 0 56), (56, oc_ci (4400) 59), (59, oc_newa B 0 61), (61, oc_putf B (zy8 12) 8 12 64), (64, oc_aload 0 65), (65, oc_ci (2200) 68), (68, oc_newa B 0 70), (70, oc_putf B (zy8 14) 8 14 73), (73, oc_aload 0 74), (74, oc_ci (2202) 77), (77, oc_newa B 0 79), (79, oc_putf B (zy8 16) 8 16 82), (82, oc_aload 0 83), (83, oc_ci (12200) 86), (86, oc_newa B 0 88), (88, oc_putf B (zy8 18) 8 18 91), (91, oc_ci (0) 92), (92, oc_istore 1 93), (93, oc_iload 1 94), (94, oc_ci (10) 96), (96, oc_icmp_ge 112 99), (99, oc_aload 0 100), (100, oc_getf B 8 4 103), (103, oc_iload 1 104), (104, oc_ci (1) 105), (105, oc_iastore B 106), (106, oc_iinc 1 (1) 109), (109, oc_goto 93), (112, oc_vret)]
set_option maxRecDepth 20000 in
theorem ok_Mo_init {l : Launch} {B : zd_B} (hG : zd_G B) (hl : l.stackTraces = false) : ∀ q ∈ cd_Mo_init l B, zd_ok l B m_Mo_init q.1 q.2 := by
  unfold cd_Mo_init
  refine zd_ac (ok_aload_n (l := l) (B := B) (y := m_Mo_init) (pc := 0) (k := 0) rfl (zd_dr dc_Mo_init 0 rfl)) ?_
  refine zd_ac (ok_oinit (l := l) (B := B) (y := m_Mo_init) (pc := 1) hG (List.mem_of_getElem? (i := 881) (by decide +kernel)) (List.mem_of_getElem? (i := 81) (by decide +kernel)) (List.mem_of_getElem? (i := 82) (by decide +kernel)) (by decide) (by decide) (zd_dr dc_Mo_init 1 rfl)) ?_
  refine zd_ac (ok_aload_n (l := l) (B := B) (y := m_Mo_init) (pc := 4) (k := 0) rfl (zd_dr dc_Mo_init 2 rfl)) ?_
  refine zd_ac (ok_sipush (l := l) (B := B) (y := m_Mo_init) (pc := 5) (n := (1100)) (zd_dr dc_Mo_init 3 rfl) rfl) ?_
  refine zd_ac (ok_newa_int (l := l) (B := B) (y := m_Mo_init) (pc := 8) hG (List.mem_of_getElem? (i := 106) (by decide +kernel)) (zd_dr dc_Mo_init 4 rfl)) ?_
  refine zd_ac (ok_putfF (l := l) (B := B) (y := m_Mo_init) (pc := 10) hG (C := zR8) (T := zT8) (N := 21) (ci := 8) (k := 1) rfl zl8 zt8 (by decide) (List.mem_of_getElem? (i := 883) (by decide +kernel)) rfl rfl rfl (zd_dr dc_Mo_init 5 rfl)) ?_
  refine zd_ac (ok_aload_n (l := l) (B := B) (y := m_Mo_init) (pc := 13) (k := 0) rfl (zd_dr dc_Mo_init 6 rfl)) ?_
  refine zd_ac (ok_sipush (l := l) (B := B) (y := m_Mo_init) (pc := 14) (n := (10000)) (zd_dr dc_Mo_init 7 rfl) rfl) ?_
  refine zd_ac (ok_newa_int (l := l) (B := B) (y := m_Mo_init) (pc := 17) hG (List.mem_of_getElem? (i := 106) (by decide +kernel)) (zd_dr dc_Mo_init 8 rfl)) ?_
  refine zd_ac (ok_putfF (l := l) (B := B) (y := m_Mo_init) (pc := 19) hG (C := zR8) (T := zT8) (N := 21) (ci := 8) (k := 3) rfl zl8 zt8 (by decide) (List.mem_of_getElem? (i := 885) (by decide +kernel)) rfl rfl rfl (zd_dr dc_Mo_init 9 rfl)) ?_
  refine zd_ac (ok_aload_n (l := l) (B := B) (y := m_Mo_init) (pc := 22) (k := 0) rfl (zd_dr dc_Mo_init 10 rfl)) ?_
  refine zd_ac (ok_bipush (l := l) (B := B) (y := m_Mo_init) (pc := 23) (n := (10)) (zd_dr dc_Mo_init 11 rfl) rfl) ?_
  refine zd_ac (ok_newa_int (l := l) (B := B) (y := m_Mo_init) (pc := 25) hG (List.mem_of_getElem? (i := 106) (by decide +kernel)) (zd_dr dc_Mo_init 12 rfl)) ?_
  refine zd_ac (ok_putfF (l := l) (B := B) (y := m_Mo_init) (pc := 27) hG (C := zR8) (T := zT8) (N := 21) (ci := 8) (k := 4) rfl zl8 zt8 (by decide) (List.mem_of_getElem? (i := 886) (by decide +kernel)) rfl rfl rfl (zd_dr dc_Mo_init 13 rfl)) ?_
  refine zd_ac (ok_aload_n (l := l) (B := B) (y := m_Mo_init) (pc := 30) (k := 0) rfl (zd_dr dc_Mo_init 14 rfl)) ?_
  refine zd_ac (ok_bipush (l := l) (B := B) (y := m_Mo_init) (pc := 31) (n := (10)) (zd_dr dc_Mo_init 15 rfl) rfl) ?_
  refine zd_ac (ok_newa_boolean (l := l) (B := B) (y := m_Mo_init) (pc := 33) hG (List.mem_of_getElem? (i := 946) (by decide +kernel)) (zd_dr dc_Mo_init 16 rfl)) ?_
  refine zd_ac (ok_putfF (l := l) (B := B) (y := m_Mo_init) (pc := 35) hG (C := zR8) (T := zT8) (N := 21) (ci := 8) (k := 5) rfl zl8 zt8 (by decide) (List.mem_of_getElem? (i := 887) (by decide +kernel)) rfl rfl rfl (zd_dr dc_Mo_init 17 rfl)) ?_
  refine zd_ac (ok_aload_n (l := l) (B := B) (y := m_Mo_init) (pc := 38) (k := 0) rfl (zd_dr dc_Mo_init 18 rfl)) ?_
  refine zd_ac (ok_bipush (l := l) (B := B) (y := m_Mo_init) (pc := 39) (n := (10)) (zd_dr dc_Mo_init 19 rfl) rfl) ?_
  refine zd_ac (ok_newa_int (l := l) (B := B) (y := m_Mo_init) (pc := 41) hG (List.mem_of_getElem? (i := 106) (by decide +kernel)) (zd_dr dc_Mo_init 20 rfl)) ?_
  refine zd_ac (ok_putfF (l := l) (B := B) (y := m_Mo_init) (pc := 43) hG (C := zR8) (T := zT8) (N := 21) (ci := 8) (k := 6) rfl zl8 zt8 (by decide) (List.mem_of_getElem? (i := 888) (by decide +kernel)) rfl rfl rfl (zd_dr dc_Mo_init 21 rfl)) ?_
  refine zd_ac (ok_aload_n (l := l) (B := B) (y := m_Mo_init) (pc := 46) (k := 0) rfl (zd_dr dc_Mo_init 22 rfl)) ?_
  refine zd_ac (ok_sipush (l := l) (B := B) (y := m_Mo_init) (pc := 47) (n := (4400)) (zd_dr dc_Mo_init 23 rfl) rfl) ?_
  refine zd_ac (ok_newa_int (l := l) (B := B) (y := m_Mo_init) (pc := 50) hG (List.mem_of_getElem? (i := 106) (by decide +kernel)) (zd_dr dc_Mo_init 24 rfl)) ?_
  refine zd_ac (ok_putfF (l := l) (B := B) (y := m_Mo_init) (pc := 52) hG (C := zR8) (T := zT8) (N := 21) (ci := 8) (k := 7) rfl zl8 zt8 (by decide) (List.mem_of_getElem? (i := 889) (by decide +kernel)) rfl rfl rfl (zd_dr dc_Mo_init 25 rfl)) ?_
  refine zd_ac (ok_aload_n (l := l) (B := B) (y := m_Mo_init) (pc := 55) (k := 0) rfl (zd_dr dc_Mo_init 26 rfl)) ?_
  refine zd_ac (ok_sipush (l := l) (B := B) (y := m_Mo_init) (pc := 56) (n := (4400)) (zd_dr dc_Mo_init 27 rfl) rfl) ?_
  refine zd_ac (ok_newa_int (l := l) (B := B) (y := m_Mo_init) (pc := 59) hG (List.mem_of_getElem? (i := 106) (by decide +kernel)) (zd_dr dc_Mo_init 28 rfl)) ?_
  refine zd_ac (ok_putfF (l := l) (B := B) (y := m_Mo_init) (pc := 61) hG (C := zR8) (T := zT8) (N := 21) (ci := 8) (k := 12) rfl zl8 zt8 (by decide) (List.mem_of_getElem? (i := 894) (by decide +kernel)) rfl rfl rfl (zd_dr dc_Mo_init 29 rfl)) ?_
  refine zd_ac (ok_aload_n (l := l) (B := B) (y := m_Mo_init) (pc := 64) (k := 0) rfl (zd_dr dc_Mo_init 30 rfl)) ?_
  refine zd_ac (ok_sipush (l := l) (B := B) (y := m_Mo_init) (pc := 65) (n := (2200)) (zd_dr dc_Mo_init 31 rfl) rfl) ?_
  refine zd_ac (ok_newa_int (l := l) (B := B) (y := m_Mo_init) (pc := 68) hG (List.mem_of_getElem? (i := 106) (by decide +kernel)) (zd_dr dc_Mo_init 32 rfl)) ?_
  refine zd_ac (ok_putfF (l := l) (B := B) (y := m_Mo_init) (pc := 70) hG (C := zR8) (T := zT8) (N := 21) (ci := 8) (k := 14) rfl zl8 zt8 (by decide) (List.mem_of_getElem? (i := 896) (by decide +kernel)) rfl rfl rfl (zd_dr dc_Mo_init 33 rfl)) ?_
  refine zd_ac (ok_aload_n (l := l) (B := B) (y := m_Mo_init) (pc := 73) (k := 0) rfl (zd_dr dc_Mo_init 34 rfl)) ?_
  refine zd_ac (ok_sipush (l := l) (B := B) (y := m_Mo_init) (pc := 74) (n := (2202)) (zd_dr dc_Mo_init 35 rfl) rfl) ?_
  refine zd_ac (ok_newa_int (l := l) (B := B) (y := m_Mo_init) (pc := 77) hG (List.mem_of_getElem? (i := 106) (by decide +kernel)) (zd_dr dc_Mo_init 36 rfl)) ?_
  refine zd_ac (ok_putfF (l := l) (B := B) (y := m_Mo_init) (pc := 79) hG (C := zR8) (T := zT8) (N := 21) (ci := 8) (k := 16) rfl zl8 zt8 (by decide) (List.mem_of_getElem? (i := 898) (by decide +kernel)) rfl rfl rfl (zd_dr dc_Mo_init 37 rfl)) ?_
  refine zd_ac (ok_aload_n (l := l) (B := B) (y := m_Mo_init) (pc := 82) (k := 0) rfl (zd_dr dc_Mo_init 38 rfl)) ?_
  refine zd_ac (ok_sipush (l := l) (B := B) (y := m_Mo_init) (pc := 83) (n := (12200)) (zd_dr dc_Mo_init 39 rfl) rfl) ?_
  refine zd_ac (ok_newa_int (l := l) (B := B) (y := m_Mo_init) (pc := 86) hG (List.mem_of_getElem? (i := 106) (by decide +kernel)) (zd_dr dc_Mo_init 40 rfl)) ?_
  refine zd_ac (ok_putfF (l := l) (B := B) (y := m_Mo_init) (pc := 88) hG (C := zR8) (T := zT8) (N := 21) (ci := 8) (k := 18) rfl zl8 zt8 (by decide) (List.mem_of_getElem? (i := 900) (by decide +kernel)) rfl rfl rfl (zd_dr dc_Mo_init 41 rfl)) ?_
  refine zd_ac (ok_iconst (l := l) (B := B) (y := m_Mo_init) (pc := 91) (n := (0)) (zd_dr dc_Mo_init 42 rfl) rfl) ?_
  refine zd_ac (ok_istore_n (l := l) (B := B) (y := m_Mo_init) (pc := 92) (k := 1) rfl (zd_dr dc_Mo_init 43 rfl) (by decide)) ?_
  refine zd_ac (ok_iload_n (l := l) (B := B) (y := m_Mo_init) (pc := 93) (k := 1) rfl (zd_dr dc_Mo_init 44 rfl)) ?_
  refine zd_ac (ok_bipush (l := l) (B := B) (y := m_Mo_init) (pc := 94) (n := (10)) (zd_dr dc_Mo_init 45 rfl) rfl) ?_
  refine zd_ac (ok_icmp_ge (l := l) (B := B) (y := m_Mo_init) (pc := 96) (zd_dr dc_Mo_init 46 rfl) (by decide)) ?_
  refine zd_ac (ok_aload_n (l := l) (B := B) (y := m_Mo_init) (pc := 99) (k := 0) rfl (zd_dr dc_Mo_init 47 rfl)) ?_
  refine zd_ac (ok_getf (l := l) (B := B) (y := m_Mo_init) (pc := 100) hG (C := zR8) (T := zT8) (N := 21) (ci := 8) (k := 4) rfl zl8 (by decide) (List.mem_of_getElem? (i := 886) (by decide +kernel)) (zd_dr dc_Mo_init 48 rfl)) ?_
  refine zd_ac (ok_iload_n (l := l) (B := B) (y := m_Mo_init) (pc := 103) (k := 1) rfl (zd_dr dc_Mo_init 49 rfl)) ?_
  refine zd_ac (ok_iconst (l := l) (B := B) (y := m_Mo_init) (pc := 104) (n := (1)) (zd_dr dc_Mo_init 50 rfl) rfl) ?_
  refine zd_ac (ok_iastore (l := l) (B := B) (y := m_Mo_init) (pc := 105) hG (zd_dr dc_Mo_init 51 rfl)) ?_
  refine zd_ac (ok_iinc (l := l) (B := B) (y := m_Mo_init) (pc := 106) (zd_dr dc_Mo_init 52 rfl) (by decide) rfl) ?_
  refine zd_ac (ok_goto (l := l) (B := B) (y := m_Mo_init) (pc := 109) (zd_dr dc_Mo_init 53 rfl) (by decide)) ?_
  refine zd_ac (ok_vret (l := l) (B := B) (y := m_Mo_init) (pc := 112) rfl (zd_dr dc_Mo_init 54 rfl)) ?_
  exact zd_an
def dl_Dr_init : List (Nat × Instr × Nat) := [(0, .aload_n 0, 1), (1, .invokespecial 3, 3), (4, .aload_n 0, 1), (5, .sipush (1100), 3), (8, .newarray .char, 2), (10, .putfield 9, 3), (13, .return_, 1)]
theorem dc_Dr_init : ∀ q ∈ dl_Dr_init, decode (zd_yb m_Dr_init) q.1 = .ok q.2 := by decide +kernel
def cd_Dr_init (l : Launch) (B : zd_B) : List (Nat × zd_S) := [(0, oc_aload 0 1), (1, oc_oinit 4), (4, oc_aload 0 5), (5, oc_ci (1100) 8), (8, oc_newa B 1 10), (10, oc_putf B (zy3 0) 3 0 13), (13, oc_vret)]
set_option maxRecDepth 20000 in
theorem ok_Dr_init {l : Launch} {B : zd_B} (hG : zd_G B) (hl : l.stackTraces = false) : ∀ q ∈ cd_Dr_init l B, zd_ok l B m_Dr_init q.1 q.2 := by
  unfold cd_Dr_init
  refine zd_ac (ok_aload_n (l := l) (B := B) (y := m_Dr_init) (pc := 0) (k := 0) rfl (zd_dr dc_Dr_init 0 rfl)) ?_
  refine zd_ac (ok_oinit (l := l) (B := B) (y := m_Dr_init) (pc := 1) hG (List.mem_of_getElem? (i := 131) (by decide +kernel)) (List.mem_of_getElem? (i := 81) (by decide +kernel)) (List.mem_of_getElem? (i := 82) (by decide +kernel)) (by decide) (by decide) (zd_dr dc_Dr_init 1 rfl)) ?_
  refine zd_ac (ok_aload_n (l := l) (B := B) (y := m_Dr_init) (pc := 4) (k := 0) rfl (zd_dr dc_Dr_init 2 rfl)) ?_
  refine zd_ac (ok_sipush (l := l) (B := B) (y := m_Dr_init) (pc := 5) (n := (1100)) (zd_dr dc_Dr_init 3 rfl) rfl) ?_
  refine zd_ac (ok_newa_char (l := l) (B := B) (y := m_Dr_init) (pc := 8) hG (List.mem_of_getElem? (i := 157) (by decide +kernel)) (zd_dr dc_Dr_init 4 rfl)) ?_
  refine zd_ac (ok_putfF (l := l) (B := B) (y := m_Dr_init) (pc := 10) hG (C := zR3) (T := zT3) (N := 8) (ci := 3) (k := 0) rfl zl3 zt3 (by decide) (List.mem_of_getElem? (i := 132) (by decide +kernel)) rfl rfl rfl (zd_dr dc_Dr_init 5 rfl)) ?_
  refine zd_ac (ok_vret (l := l) (B := B) (y := m_Dr_init) (pc := 13) rfl (zd_dr dc_Dr_init 6 rfl)) ?_
  exact zd_an
def dl_Te_init : List (Nat × Instr × Nat) := [(0, .aload_n 0, 1), (1, .invokespecial 3, 3), (4, .aload_n 0, 1), (5, .sipush (1100), 3), (8, .newarray .char, 2), (10, .putfield 9, 3), (13, .return_, 1)]
theorem dc_Te_init : ∀ q ∈ dl_Te_init, decode (zd_yb m_Te_init) q.1 = .ok q.2 := by decide +kernel
def cd_Te_init (l : Launch) (B : zd_B) : List (Nat × zd_S) := [(0, oc_aload 0 1), (1, oc_oinit 4), (4, oc_aload 0 5), (5, oc_ci (1100) 8), (8, oc_newa B 1 10), (10, oc_putf B (zy7 0) 7 0 13), (13, oc_vret)]
set_option maxRecDepth 20000 in
theorem ok_Te_init {l : Launch} {B : zd_B} (hG : zd_G B) (hl : l.stackTraces = false) : ∀ q ∈ cd_Te_init l B, zd_ok l B m_Te_init q.1 q.2 := by
  unfold cd_Te_init
  refine zd_ac (ok_aload_n (l := l) (B := B) (y := m_Te_init) (pc := 0) (k := 0) rfl (zd_dr dc_Te_init 0 rfl)) ?_
  refine zd_ac (ok_oinit (l := l) (B := B) (y := m_Te_init) (pc := 1) hG (List.mem_of_getElem? (i := 163) (by decide +kernel)) (List.mem_of_getElem? (i := 81) (by decide +kernel)) (List.mem_of_getElem? (i := 82) (by decide +kernel)) (by decide) (by decide) (zd_dr dc_Te_init 1 rfl)) ?_
  refine zd_ac (ok_aload_n (l := l) (B := B) (y := m_Te_init) (pc := 4) (k := 0) rfl (zd_dr dc_Te_init 2 rfl)) ?_
  refine zd_ac (ok_sipush (l := l) (B := B) (y := m_Te_init) (pc := 5) (n := (1100)) (zd_dr dc_Te_init 3 rfl) rfl) ?_
  refine zd_ac (ok_newa_char (l := l) (B := B) (y := m_Te_init) (pc := 8) hG (List.mem_of_getElem? (i := 157) (by decide +kernel)) (zd_dr dc_Te_init 4 rfl)) ?_
  refine zd_ac (ok_putf (l := l) (B := B) (y := m_Te_init) (pc := 10) hG (C := zR7) (T := zT7) (N := 2) (ci := 7) (k := 0) rfl zl7 zt7 (by decide) (List.mem_of_getElem? (i := 164) (by decide +kernel)) rfl (zd_dr dc_Te_init 5 rfl)) ?_
  refine zd_ac (ok_vret (l := l) (B := B) (y := m_Te_init) (pc := 13) rfl (zd_dr dc_Te_init 6 rfl)) ?_
  exact zd_an

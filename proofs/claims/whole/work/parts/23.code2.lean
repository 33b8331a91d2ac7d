/-! written by gencode.py: code of Divider, Rooter, Decimal, Rough -/
theorem zx_Dv_24_26_28 : zx_F "DecimalDesk$Divider" 24 26 28 "java/lang/ArithmeticException" "divided by 0" := ⟨(List.mem_of_getElem? (i := 611) (by decide +kernel)), (List.mem_of_getElem? (i := 70) (by decide +kernel)), (List.mem_of_getElem? (i := 612) (by decide +kernel)), (List.mem_of_getElem? (i := 613) (by decide +kernel))⟩
theorem zx_Ru_55_57_59 : zx_F "DecimalDesk$Rough" 55 57 59 "java/lang/ArithmeticException" "rounding would be needed" := ⟨(List.mem_of_getElem? (i := 652) (by decide +kernel)), (List.mem_of_getElem? (i := 70) (by decide +kernel)), (List.mem_of_getElem? (i := 653) (by decide +kernel)), (List.mem_of_getElem? (i := 654) (by decide +kernel))⟩
theorem cf_Dc_accept_Na_copy : zd_cf m_Dc_accept m_Na_copy 1 := ⟨(List.mem_of_getElem? (i := 485) (by decide +kernel)), by decide +kernel, by decide, by decide, ⟨by decide, by decide⟩, by decide +kernel⟩
theorem cf_Dc_accept_Na_isZero : zd_cf m_Dc_accept m_Na_isZero 0 := ⟨(List.mem_of_getElem? (i := 492) (by decide +kernel)), by decide +kernel, by decide, by decide, ⟨by decide, by decide⟩, by decide +kernel⟩
theorem cf_Dc_init_Na_init : zd_cf m_Dc_init m_Na_init 1 := ⟨(List.mem_of_getElem? (i := 94) (by decide +kernel)), by decide +kernel, by decide, by decide, ⟨by decide, by decide⟩, by decide +kernel⟩
theorem cf_Dc_sign_Na_isZero : zd_cf m_Dc_sign m_Na_isZero 0 := ⟨(List.mem_of_getElem? (i := 492) (by decide +kernel)), by decide +kernel, by decide, by decide, ⟨by decide, by decide⟩, by decide +kernel⟩
theorem cf_Dv_init_Na_init : zd_cf m_Dv_init m_Na_init 1 := ⟨(List.mem_of_getElem? (i := 94) (by decide +kernel)), by decide +kernel, by decide, by decide, ⟨by decide, by decide⟩, by decide +kernel⟩
theorem cf_Dv_split_Dv_takeLimb : zd_cf m_Dv_split m_Dv_takeLimb 2 := ⟨(List.mem_of_getElem? (i := 624) (by decide +kernel)), by decide +kernel, by decide, by decide, ⟨by decide, by decide⟩, by decide +kernel⟩
theorem cf_Dv_split_Na_claim : zd_cf m_Dv_split m_Na_claim 1 := ⟨(List.mem_of_getElem? (i := 444) (by decide +kernel)), by decide +kernel, by decide, by decide, ⟨by decide, by decide⟩, by decide +kernel⟩
theorem cf_Dv_split_Na_copy : zd_cf m_Dv_split m_Na_copy 1 := ⟨(List.mem_of_getElem? (i := 485) (by decide +kernel)), by decide +kernel, by decide, by decide, ⟨by decide, by decide⟩, by decide +kernel⟩
theorem cf_Dv_split_Na_overSmall : zd_cf m_Dv_split m_Na_overSmall 1 := ⟨(List.mem_of_getElem? (i := 642) (by decide +kernel)), by decide +kernel, by decide, by decide, ⟨by decide, by decide⟩, by decide +kernel⟩
theorem cf_Dv_split_Na_timesSmall : zd_cf m_Dv_split m_Na_timesSmall 1 := ⟨(List.mem_of_getElem? (i := 620) (by decide +kernel)), by decide +kernel, by decide, by decide, ⟨by decide, by decide⟩, by decide +kernel⟩
theorem cf_Dv_split_Na_trim : zd_cf m_Dv_split m_Na_trim 0 := ⟨(List.mem_of_getElem? (i := 457) (by decide +kernel)), by decide +kernel, by decide, by decide, ⟨by decide, by decide⟩, by decide +kernel⟩
theorem cf_Dv_takeLimb_Dv_giveBack : zd_cf m_Dv_takeLimb m_Dv_giveBack 2 := ⟨(List.mem_of_getElem? (i := 637) (by decide +kernel)), by decide +kernel, by decide, by decide, ⟨by decide, by decide⟩, by decide +kernel⟩
theorem cf_Dv_takeLimb_Dv_guessLimb : zd_cf m_Dv_takeLimb m_Dv_guessLimb 2 := ⟨(List.mem_of_getElem? (i := 628) (by decide +kernel)), by decide +kernel, by decide, by decide, ⟨by decide, by decide⟩, by decide +kernel⟩
theorem cf_Dv_takeLimb_Dv_subtractTimes : zd_cf m_Dv_takeLimb m_Dv_subtractTimes 3 := ⟨(List.mem_of_getElem? (i := 633) (by decide +kernel)), by decide +kernel, by decide, by decide, ⟨by decide, by decide⟩, by decide +kernel⟩
theorem cf_Ro_descend_Dv_split : zd_cf m_Ro_descend m_Dv_split 3 := ⟨(List.mem_of_getElem? (i := 610) (by decide +kernel)), by decide +kernel, by decide, by decide, ⟨by decide, by decide⟩, by decide +kernel⟩
theorem cf_Ro_descend_Na_copy : zd_cf m_Ro_descend m_Na_copy 1 := ⟨(List.mem_of_getElem? (i := 485) (by decide +kernel)), by decide +kernel, by decide, by decide, ⟨by decide, by decide⟩, by decide +kernel⟩
theorem cf_Ro_descend_Na_isZero : zd_cf m_Ro_descend m_Na_isZero 0 := ⟨(List.mem_of_getElem? (i := 492) (by decide +kernel)), by decide +kernel, by decide, by decide, ⟨by decide, by decide⟩, by decide +kernel⟩
theorem cf_Ro_descend_Na_order : zd_cf m_Ro_descend m_Na_order 1 := ⟨(List.mem_of_getElem? (i := 564) (by decide +kernel)), by decide +kernel, by decide, by decide, ⟨by decide, by decide⟩, by decide +kernel⟩
theorem cf_Ro_descend_Na_overSmall : zd_cf m_Ro_descend m_Na_overSmall 1 := ⟨(List.mem_of_getElem? (i := 642) (by decide +kernel)), by decide +kernel, by decide, by decide, ⟨by decide, by decide⟩, by decide +kernel⟩
theorem cf_Ro_descend_Na_raiseBy : zd_cf m_Ro_descend m_Na_raiseBy 1 := ⟨(List.mem_of_getElem? (i := 559) (by decide +kernel)), by decide +kernel, by decide, by decide, ⟨by decide, by decide⟩, by decide +kernel⟩
theorem cf_Ro_extract_Ma_max : zd_cf m_Ro_extract m_Ma_max 2 := ⟨(List.mem_of_getElem? (i := 525) (by decide +kernel)), by decide +kernel, by decide, by decide, ⟨by decide, by decide⟩, by decide +kernel⟩
theorem cf_Ro_extract_Ma_min : zd_cf m_Ro_extract m_Ma_min 2 := ⟨(List.mem_of_getElem? (i := 689) (by decide +kernel)), by decide +kernel, by decide, by decide, ⟨by decide, by decide⟩, by decide +kernel⟩
theorem cf_Ro_extract_Na_claim : zd_cf m_Ro_extract m_Na_claim 1 := ⟨(List.mem_of_getElem? (i := 444) (by decide +kernel)), by decide +kernel, by decide, by decide, ⟨by decide, by decide⟩, by decide +kernel⟩
theorem cf_Ro_extract_Na_copy : zd_cf m_Ro_extract m_Na_copy 1 := ⟨(List.mem_of_getElem? (i := 485) (by decide +kernel)), by decide +kernel, by decide, by decide, ⟨by decide, by decide⟩, by decide +kernel⟩
theorem cf_Ro_extract_Na_increment : zd_cf m_Ro_extract m_Na_increment 0 := ⟨(List.mem_of_getElem? (i := 662) (by decide +kernel)), by decide +kernel, by decide, by decide, ⟨by decide, by decide⟩, by decide +kernel⟩
theorem cf_Ro_extract_Na_move : zd_cf m_Ro_extract m_Na_move 1 := ⟨(List.mem_of_getElem? (i := 539) (by decide +kernel)), by decide +kernel, by decide, by decide, ⟨by decide, by decide⟩, by decide +kernel⟩
theorem cf_Ro_extract_Ro_descend : zd_cf m_Ro_extract m_Ro_descend 1 := ⟨(List.mem_of_getElem? (i := 738) (by decide +kernel)), by decide +kernel, by decide, by decide, ⟨by decide, by decide⟩, by decide +kernel⟩
theorem cf_Ro_init_Na_init : zd_cf m_Ro_init m_Na_init 1 := ⟨(List.mem_of_getElem? (i := 94) (by decide +kernel)), by decide +kernel, by decide, by decide, ⟨by decide, by decide⟩, by decide +kernel⟩
theorem cf_Ru_cutTo_Na_move : zd_cf m_Ru_cutTo m_Na_move 1 := ⟨(List.mem_of_getElem? (i := 539) (by decide +kernel)), by decide +kernel, by decide, by decide, ⟨by decide, by decide⟩, by decide +kernel⟩
theorem cf_Ru_dropGuard_Na_digitAt : zd_cf m_Ru_dropGuard m_Na_digitAt 1 := ⟨(List.mem_of_getElem? (i := 650) (by decide +kernel)), by decide +kernel, by decide, by decide, ⟨by decide, by decide⟩, by decide +kernel⟩
theorem cf_Ru_dropGuard_Na_increment : zd_cf m_Ru_dropGuard m_Na_increment 0 := ⟨(List.mem_of_getElem? (i := 662) (by decide +kernel)), by decide +kernel, by decide, by decide, ⟨by decide, by decide⟩, by decide +kernel⟩
theorem cf_Ru_dropGuard_Ru_cutTo : zd_cf m_Ru_dropGuard m_Ru_cutTo 1 := ⟨(List.mem_of_getElem? (i := 535) (by decide +kernel)), by decide +kernel, by decide, by decide, ⟨by decide, by decide⟩, by decide +kernel⟩
theorem cf_Ru_dropGuard_Ru_goesOutwards : zd_cf m_Ru_dropGuard m_Ru_goesOutwards 3 := ⟨(List.mem_of_getElem? (i := 658) (by decide +kernel)), by decide +kernel, by decide, by decide, ⟨by decide, by decide⟩, by decide +kernel⟩
theorem cf_Ru_fitPrecision_Ma_max : zd_cf m_Ru_fitPrecision m_Ma_max 2 := ⟨(List.mem_of_getElem? (i := 525) (by decide +kernel)), by decide +kernel, by decide, by decide, ⟨by decide, by decide⟩, by decide +kernel⟩
theorem cf_Ru_fitPrecision_Ma_min : zd_cf m_Ru_fitPrecision m_Ma_min 2 := ⟨(List.mem_of_getElem? (i := 689) (by decide +kernel)), by decide +kernel, by decide, by decide, ⟨by decide, by decide⟩, by decide +kernel⟩
theorem cf_Ru_fitPrecision_Na_digitAt : zd_cf m_Ru_fitPrecision m_Na_digitAt 1 := ⟨(List.mem_of_getElem? (i := 650) (by decide +kernel)), by decide +kernel, by decide, by decide, ⟨by decide, by decide⟩, by decide +kernel⟩
theorem cf_Ru_fitPrecision_Na_digits : zd_cf m_Ru_fitPrecision m_Na_digits 0 := ⟨(List.mem_of_getElem? (i := 476) (by decide +kernel)), by decide +kernel, by decide, by decide, ⟨by decide, by decide⟩, by decide +kernel⟩
theorem cf_Ru_fitPrecision_Na_isZero : zd_cf m_Ru_fitPrecision m_Na_isZero 0 := ⟨(List.mem_of_getElem? (i := 492) (by decide +kernel)), by decide +kernel, by decide, by decide, ⟨by decide, by decide⟩, by decide +kernel⟩
theorem cf_Ru_fitPrecision_Na_trailingZeros : zd_cf m_Ru_fitPrecision m_Na_trailingZeros 0 := ⟨(List.mem_of_getElem? (i := 686) (by decide +kernel)), by decide +kernel, by decide, by decide, ⟨by decide, by decide⟩, by decide +kernel⟩
theorem cf_Ru_fitPrecision_Ru_cutTo : zd_cf m_Ru_fitPrecision m_Ru_cutTo 1 := ⟨(List.mem_of_getElem? (i := 535) (by decide +kernel)), by decide +kernel, by decide, by decide, ⟨by decide, by decide⟩, by decide +kernel⟩
theorem cf_Ru_fitPrecision_Ru_dropGuard : zd_cf m_Ru_fitPrecision m_Ru_dropGuard 1 := ⟨(List.mem_of_getElem? (i := 646) (by decide +kernel)), by decide +kernel, by decide, by decide, ⟨by decide, by decide⟩, by decide +kernel⟩
theorem cf_Ru_goesOutwards_Na_digitAt : zd_cf m_Ru_goesOutwards m_Na_digitAt 1 := ⟨(List.mem_of_getElem? (i := 650) (by decide +kernel)), by decide +kernel, by decide, by decide, ⟨by decide, by decide⟩, by decide +kernel⟩
theorem cf_Ru_init_Na_init : zd_cf m_Ru_init m_Na_init 1 := ⟨(List.mem_of_getElem? (i := 94) (by decide +kernel)), by decide +kernel, by decide, by decide, ⟨by decide, by decide⟩, by decide +kernel⟩
theorem cf_Ru_take_Na_copy : zd_cf m_Ru_take m_Na_copy 1 := ⟨(List.mem_of_getElem? (i := 485) (by decide +kernel)), by decide +kernel, by decide, by decide, ⟨by decide, by decide⟩, by decide +kernel⟩
theorem cf_Ru_take_Ru_describe : zd_cf m_Ru_take m_Ru_describe 2 := ⟨(List.mem_of_getElem? (i := 465) (by decide +kernel)), by decide +kernel, by decide, by decide, ⟨by decide, by decide⟩, by decide +kernel⟩
def dl_Dv_init : List (Nat × Instr × Nat) := [(0, .aload_n 0, 1), (1, .invokespecial 3, 3), (4, .aload_n 0, 1), (5, .new 9, 3), (8, .dup, 1), (9, .sipush (226), 3), (12, .invokespecial 11, 3), (15, .putfield 14, 3), (18, .return_, 1)]
theorem dc_Dv_init : ∀ q ∈ dl_Dv_init, decode (zd_yb m_Dv_init) q.1 = .ok q.2 := by decide +kernel
def cd_Dv_init (l : Launch) (B : zd_B) : List (Nat × zd_S) := [(0, oc_aload 0 1), (1, oc_oinit 4), (4, oc_aload 0 5), (5, oc_new B 4 2 [.null, .int 0] 8), (8, oc_dup 9), (9, oc_ci (226) 12), (12, oc_calli l B m_Na_init 1 15), (15, oc_putf B (zy2 0) 2 0 18), (18, oc_vret)]
set_option maxRecDepth 20000 in
theorem ok_Dv_init {l : Launch} {B : zd_B} (hG : zd_G B) (hl : l.stackTraces = false) : ∀ q ∈ cd_Dv_init l B, zd_ok l B m_Dv_init q.1 q.2 := by
  unfold cd_Dv_init
  refine zd_ac (ok_aload_n (l := l) (B := B) (y := m_Dv_init) (pc := 0) (k := 0) rfl (zd_dr dc_Dv_init 0 rfl)) ?_
  refine zd_ac (ok_oinit (l := l) (B := B) (y := m_Dv_init) (pc := 1) hG (List.mem_of_getElem? (i := 176) (by decide +kernel)) (List.mem_of_getElem? (i := 81) (by decide +kernel)) (List.mem_of_getElem? (i := 82) (by decide +kernel)) (by decide) (by decide) (zd_dr dc_Dv_init 1 rfl)) ?_
  refine zd_ac (ok_aload_n (l := l) (B := B) (y := m_Dv_init) (pc := 4) (k := 0) rfl (zd_dr dc_Dv_init 2 rfl)) ?_
  refine zd_ac (ok_new (l := l) (B := B) (y := m_Dv_init) (pc := 5) hG (C := zR4) (T := zT4) (ty := zy4) (N := 2) rfl zl4 zt4 (List.mem_of_getElem? (i := 177) (by decide +kernel)) (List.mem_of_getElem? (i := 91) (by decide +kernel)) (List.mem_of_getElem? (i := 58) (by decide +kernel)) (by decide) (zd_dr dc_Dv_init 3 rfl)) ?_
  refine zd_ac (ok_dup (l := l) (B := B) (y := m_Dv_init) (pc := 8) (zd_dr dc_Dv_init 4 rfl)) ?_
  refine zd_ac (ok_sipush (l := l) (B := B) (y := m_Dv_init) (pc := 9) (n := (226)) (zd_dr dc_Dv_init 5 rfl) rfl) ?_
  refine zd_ac (ok_calli (l := l) (B := B) (y := m_Dv_init) (pc := 12) hG cf_Dv_init_Na_init rfl rfl rfl rfl (List.mem_of_getElem? (i := 178) (by decide +kernel)) (List.mem_of_getElem? (i := 93) (by decide +kernel)) (zd_dr dc_Dv_init 6 rfl)) ?_
  refine zd_ac (ok_putfF (l := l) (B := B) (y := m_Dv_init) (pc := 15) hG (C := zR2) (T := zT2) (N := 1) (ci := 2) (k := 0) rfl zl2 zt2 (by decide) (List.mem_of_getElem? (i := 179) (by decide +kernel)) rfl rfl rfl (zd_dr dc_Dv_init 7 rfl)) ?_
  refine zd_ac (ok_vret (l := l) (B := B) (y := m_Dv_init) (pc := 18) rfl (zd_dr dc_Dv_init 8 rfl)) ?_
  exact zd_an
def dl_Dv_split : List (Nat × Instr × Nat) := [(0, .aload_n 2, 1), (1, .getfield 20, 3), (4, .ifCond .ne (13), 3), (7, .new 24, 3), (10, .dup, 1), (11, .ldc 26, 2), (13, .invokespecial 28, 3), (16, .athrow, 1), (17, .aload_n 3, 1), (18, .iconst (0), 1), (19, .invokevirtual 31, 3), (22, .aload_n 1, 1), (23, .getfield 20, 3), (26, .aload_n 2, 1), (27, .getfield 20, 3), (30, .if_icmp .ge (4), 3), (33, .return_, 1), (34, .ldc 34, 2), (36, .aload_n 2, 1), (37, .getfield 35, 3), (40, .aload_n 2, 1), (41, .getfield 20, 3), (44, .iconst (1), 1), (45, .isub, 1), (46, .iaload, 1), (47, .iconst (1), 1), (48, .iadd, 1), (49, .idiv, 1), (50, .istore 4, 2), (52, .aload_n 0, 1), (53, .getfield 14, 3), (56, .aload_n 2, 1), (57, .invokevirtual 39, 3), (60, .aload_n 0, 1), (61, .getfield 14, 3), (64, .iload 4, 2), (66, .invokevirtual 43, 3), (69, .aload_n 1, 1), (70, .getfield 20, 3), (73, .istore 5, 2), (75, .aload_n 1, 1), (76, .iload 4, 2), (78, .invokevirtual 43, 3), (81, .aload_n 1, 1), (82, .getfield 20, 3), (85, .iload 5, 2), (87, .if_icmp .ne (19), 3), (90, .aload_n 1, 1), (91, .iload 5, 2), (93, .iconst (1), 1), (94, .iadd, 1), (95, .invokevirtual 31, 3), (98, .aload_n 1, 1), (99, .getfield 35, 3), (102, .iload 5, 2), (104, .iconst (0), 1), (105, .iastore, 1), (106, .aload_n 3, 1), (107, .iload 5, 2), (109, .aload_n 0, 1), (110, .getfield 14, 3), (113, .getfield 20, 3), (116, .isub, 1), (117, .iconst (1), 1), (118, .iadd, 1), (119, .invokevirtual 31, 3), (122, .iload 5, 2), (124, .aload_n 0, 1), (125, .getfield 14, 3), (128, .getfield 20, 3), (131, .isub, 1), (132, .istore 6, 2), (134, .iload 6, 2), (136, .ifCond .lt (26), 3), (139, .aload_n 3, 1), (140, .getfield 35, 3), (143, .iload 6, 2), (145, .aload_n 0, 1), (146, .aload_n 1, 1), (147, .getfield 35, 3), (150, .iload 6, 2), (152, .invokevirtual 46, 3), (155, .iastore, 1), (156, .iinc 6 (-1), 3), (159, .goto (-25), 3), (162, .aload_n 3, 1), (163, .invokevirtual 50, 3), (166, .aload_n 1, 1), (167, .invokevirtual 50, 3), (170, .aload_n 1, 1), (171, .iload 4, 2), (173, .invokevirtual 53, 3), (176, .return_, 1)]
theorem dc_Dv_split : ∀ q ∈ dl_Dv_split, decode (zd_yb m_Dv_split) q.1 = .ok q.2 := by decide +kernel
def cd_Dv_split (l : Launch) (B : zd_B) : List (Nat × zd_S) := [(0, oc_aload 2 1), (1, oc_getf B 4 1 4), (4, oc_if_ne 17 7), (7, oc_throw B 11), (17, oc_aload 3 18), (18, oc_ci (0) 19), (19, oc_callv l B 4 m_Na_claim 1 22), (22, oc_aload 1 23), (23, oc_getf B 4 1 26), (26, oc_aload 2 27), (27, oc_getf B 4 1 30), (30, oc_icmp_ge 34 33), (33, oc_vret), (34, oc_ci (1000000000) 36), (36, oc_aload 2 37), (37, oc_getf B 4 0 40), (40, oc_aload 2 41), (41, oc_getf B 4 1 44), (44, oc_ci (1) 45), (45, oc_isub 46), (46, oc_iaload B 47), (47, oc_ci (1) 48), (48, oc_iadd 49), (49, oc_idiv 50), (50, oc_istore 4 52), (52, oc_aload 0 53), (53, oc_getf B 2 0 56), (56, oc_aload 2 57), (57, oc_callv l B 4 m_Na_copy 1 60), (60, oc_aload 0 61), (61, oc_getf B 2 0 64), (64, oc_iload 4 66), (66, oc_callv l B 4 m_Na_timesSmall 1 69), (69, oc_aload 1 70), (70, oc_getf B 4 1 73), (73, oc_istore 5 75), (75, oc_aload 1 76), (76, oc_iload 4 78), (78, oc_callv l B 4 m_Na_timesSmall 1 81), (81, oc_aload 1 82), (82, oc_getf B 4 1 85), (85, oc_iload 5 87), (87, oc_icmp_ne 106 90), (90, oc_aload 1 91), (91, oc_iload 5 93), (93, oc_ci (1) 94), (94, oc_iadd 95), (95, oc_callv l B 4 m_Na_claim 1 98), (98, oc_aload 1 99), (99, oc_getf B 4 0 102), (102, oc_iload 5 104), (104, oc_ci (0) 105), (105, oc_iastore B 106), (106, oc_aload 3 107), (107, oc_iload 5 109), (109, oc_aload 0 110), (110, oc_getf B 2 0 113), (113, oc_getf B 4 1 116), (116, oc_isub 117), (117, oc_ci (1) 118), (118, oc_iadd 119), (119, oc_callv l B 4 m_Na_claim 1 122), (122, oc_iload 5 124), (124, oc_aload 0 125), (125, oc_getf B 2 0 128), (128, oc_getf B 4 1 131), (131, oc_isub 132), (132, oc_istore 6 134), (134, oc_iload 6 136), (136, oc_if_lt 162 139), (139, oc_aload 3 140), (140, oc_getf B 4 0 143), (143, oc_iload 6 145), (145, oc_aload 0 146), (146, oc_aload 1 147), (147, oc_getf B 4 0 150), (150, oc_iload 6 152), (152, oc_callv l B 2 m_Dv_takeLimb 2 155), (155, oc_iastore B 156), (156, oc_iinc 6 (-1) 159), (159, oc_goto 134), (162, oc_aload 3 163), (163, oc_callv l B 4 m_Na_trim 0 166), (166, oc_aload 1 167), (167, oc_callv l B 4 m_Na_trim 0 170), (170, oc_aload 1 171), (171, oc_iload 4 173), (173, oc_callv l B 4 m_Na_overSmall 1 176), (176, oc_vret)]
set_option maxRecDepth 20000 in
theorem ok_Dv_split {l : Launch} {B : zd_B} (hG : zd_G B) (hl : l.stackTraces = false) : ∀ q ∈ cd_Dv_split l B, zd_ok l B m_Dv_split q.1 q.2 := by
  unfold cd_Dv_split
  refine zd_ac (ok_aload_n (l := l) (B := B) (y := m_Dv_split) (pc := 0) (k := 2) rfl (zd_dr dc_Dv_split 0 rfl)) ?_
  refine zd_ac (ok_getf (l := l) (B := B) (y := m_Dv_split) (pc := 1) hG (C := zR4) (T := zT4) (N := 2) (ci := 4) (k := 1) rfl zl4 (by decide) (List.mem_of_getElem? (i := 99) (by decide +kernel)) (zd_dr dc_Dv_split 1 rfl)) ?_
  refine zd_ac (ok_if_ne (l := l) (B := B) (y := m_Dv_split) (pc := 4) (zd_dr dc_Dv_split 2 rfl) (by decide)) ?_
  refine zd_ac (ok_throw (l := l) (B := B) (y := m_Dv_split) (pc := 7) hG hl zE11 zx_Dv_24_26_28 rfl (by decide) (by decide) (zd_dr dc_Dv_split 3 rfl) (zd_dr dc_Dv_split 4 rfl) (zd_dr dc_Dv_split 5 rfl) (zd_dr dc_Dv_split 6 rfl) (zd_dr dc_Dv_split 7 rfl)) ?_
  refine zd_ac (ok_aload_n (l := l) (B := B) (y := m_Dv_split) (pc := 17) (k := 3) rfl (zd_dr dc_Dv_split 8 rfl)) ?_
  refine zd_ac (ok_iconst (l := l) (B := B) (y := m_Dv_split) (pc := 18) (n := (0)) (zd_dr dc_Dv_split 9 rfl) rfl) ?_
  refine zd_ac (ok_callv (l := l) (B := B) (y := m_Dv_split) (pc := 19) hG (ci := 4) rfl cf_Dv_split_Na_claim rfl (List.mem_of_getElem? (i := 614) (by decide +kernel)) (List.mem_of_getElem? (i := 442) (by decide +kernel)) (List.mem_of_getElem? (i := 443) (by decide +kernel)) (zd_dr dc_Dv_split 10 rfl)) ?_
  refine zd_ac (ok_aload_n (l := l) (B := B) (y := m_Dv_split) (pc := 22) (k := 1) rfl (zd_dr dc_Dv_split 11 rfl)) ?_
  refine zd_ac (ok_getf (l := l) (B := B) (y := m_Dv_split) (pc := 23) hG (C := zR4) (T := zT4) (N := 2) (ci := 4) (k := 1) rfl zl4 (by decide) (List.mem_of_getElem? (i := 99) (by decide +kernel)) (zd_dr dc_Dv_split 12 rfl)) ?_
  refine zd_ac (ok_aload_n (l := l) (B := B) (y := m_Dv_split) (pc := 26) (k := 2) rfl (zd_dr dc_Dv_split 13 rfl)) ?_
  refine zd_ac (ok_getf (l := l) (B := B) (y := m_Dv_split) (pc := 27) hG (C := zR4) (T := zT4) (N := 2) (ci := 4) (k := 1) rfl zl4 (by decide) (List.mem_of_getElem? (i := 99) (by decide +kernel)) (zd_dr dc_Dv_split 14 rfl)) ?_
  refine zd_ac (ok_icmp_ge (l := l) (B := B) (y := m_Dv_split) (pc := 30) (zd_dr dc_Dv_split 15 rfl) (by decide)) ?_
  refine zd_ac (ok_vret (l := l) (B := B) (y := m_Dv_split) (pc := 33) rfl (zd_dr dc_Dv_split 16 rfl)) ?_
  refine zd_ac (ok_ldc (l := l) (B := B) (y := m_Dv_split) (pc := 34) hG (List.mem_of_getElem? (i := 615) (by decide +kernel)) (zd_dr dc_Dv_split 17 rfl)) ?_
  refine zd_ac (ok_aload_n (l := l) (B := B) (y := m_Dv_split) (pc := 36) (k := 2) rfl (zd_dr dc_Dv_split 18 rfl)) ?_
  refine zd_ac (ok_getf (l := l) (B := B) (y := m_Dv_split) (pc := 37) hG (C := zR4) (T := zT4) (N := 2) (ci := 4) (k := 0) rfl zl4 (by decide) (List.mem_of_getElem? (i := 97) (by decide +kernel)) (zd_dr dc_Dv_split 19 rfl)) ?_
  refine zd_ac (ok_aload_n (l := l) (B := B) (y := m_Dv_split) (pc := 40) (k := 2) rfl (zd_dr dc_Dv_split 20 rfl)) ?_
  refine zd_ac (ok_getf (l := l) (B := B) (y := m_Dv_split) (pc := 41) hG (C := zR4) (T := zT4) (N := 2) (ci := 4) (k := 1) rfl zl4 (by decide) (List.mem_of_getElem? (i := 99) (by decide +kernel)) (zd_dr dc_Dv_split 21 rfl)) ?_
  refine zd_ac (ok_iconst (l := l) (B := B) (y := m_Dv_split) (pc := 44) (n := (1)) (zd_dr dc_Dv_split 22 rfl) rfl) ?_
  refine zd_ac (ok_isub (l := l) (B := B) (y := m_Dv_split) (pc := 45) (zd_dr dc_Dv_split 23 rfl)) ?_
  refine zd_ac (ok_iaload (l := l) (B := B) (y := m_Dv_split) (pc := 46) hG (zd_dr dc_Dv_split 24 rfl)) ?_
  refine zd_ac (ok_iconst (l := l) (B := B) (y := m_Dv_split) (pc := 47) (n := (1)) (zd_dr dc_Dv_split 25 rfl) rfl) ?_
  refine zd_ac (ok_iadd (l := l) (B := B) (y := m_Dv_split) (pc := 48) (zd_dr dc_Dv_split 26 rfl)) ?_
  refine zd_ac (ok_idiv (l := l) (B := B) (y := m_Dv_split) (pc := 49) (zd_dr dc_Dv_split 27 rfl)) ?_
  refine zd_ac (ok_istore (l := l) (B := B) (y := m_Dv_split) (pc := 50) (zd_dr dc_Dv_split 28 rfl) (by decide)) ?_
  refine zd_ac (ok_aload_n (l := l) (B := B) (y := m_Dv_split) (pc := 52) (k := 0) rfl (zd_dr dc_Dv_split 29 rfl)) ?_
  refine zd_ac (ok_getf (l := l) (B := B) (y := m_Dv_split) (pc := 53) hG (C := zR2) (T := zT2) (N := 1) (ci := 2) (k := 0) rfl zl2 (by decide) (List.mem_of_getElem? (i := 179) (by decide +kernel)) (zd_dr dc_Dv_split 30 rfl)) ?_
  refine zd_ac (ok_aload_n (l := l) (B := B) (y := m_Dv_split) (pc := 56) (k := 2) rfl (zd_dr dc_Dv_split 31 rfl)) ?_
  refine zd_ac (ok_callv (l := l) (B := B) (y := m_Dv_split) (pc := 57) hG (ci := 4) rfl cf_Dv_split_Na_copy rfl (List.mem_of_getElem? (i := 616) (by decide +kernel)) (List.mem_of_getElem? (i := 483) (by decide +kernel)) (List.mem_of_getElem? (i := 484) (by decide +kernel)) (zd_dr dc_Dv_split 32 rfl)) ?_
  refine zd_ac (ok_aload_n (l := l) (B := B) (y := m_Dv_split) (pc := 60) (k := 0) rfl (zd_dr dc_Dv_split 33 rfl)) ?_
  refine zd_ac (ok_getf (l := l) (B := B) (y := m_Dv_split) (pc := 61) hG (C := zR2) (T := zT2) (N := 1) (ci := 2) (k := 0) rfl zl2 (by decide) (List.mem_of_getElem? (i := 179) (by decide +kernel)) (zd_dr dc_Dv_split 34 rfl)) ?_
  refine zd_ac (ok_iload (l := l) (B := B) (y := m_Dv_split) (pc := 64) (zd_dr dc_Dv_split 35 rfl)) ?_
  refine zd_ac (ok_callv (l := l) (B := B) (y := m_Dv_split) (pc := 66) hG (ci := 4) rfl cf_Dv_split_Na_timesSmall rfl (List.mem_of_getElem? (i := 617) (by decide +kernel)) (List.mem_of_getElem? (i := 618) (by decide +kernel)) (List.mem_of_getElem? (i := 619) (by decide +kernel)) (zd_dr dc_Dv_split 36 rfl)) ?_
  refine zd_ac (ok_aload_n (l := l) (B := B) (y := m_Dv_split) (pc := 69) (k := 1) rfl (zd_dr dc_Dv_split 37 rfl)) ?_
  refine zd_ac (ok_getf (l := l) (B := B) (y := m_Dv_split) (pc := 70) hG (C := zR4) (T := zT4) (N := 2) (ci := 4) (k := 1) rfl zl4 (by decide) (List.mem_of_getElem? (i := 99) (by decide +kernel)) (zd_dr dc_Dv_split 38 rfl)) ?_
  refine zd_ac (ok_istore (l := l) (B := B) (y := m_Dv_split) (pc := 73) (zd_dr dc_Dv_split 39 rfl) (by decide)) ?_
  refine zd_ac (ok_aload_n (l := l) (B := B) (y := m_Dv_split) (pc := 75) (k := 1) rfl (zd_dr dc_Dv_split 40 rfl)) ?_
  refine zd_ac (ok_iload (l := l) (B := B) (y := m_Dv_split) (pc := 76) (zd_dr dc_Dv_split 41 rfl)) ?_
  refine zd_ac (ok_callv (l := l) (B := B) (y := m_Dv_split) (pc := 78) hG (ci := 4) rfl cf_Dv_split_Na_timesSmall rfl (List.mem_of_getElem? (i := 617) (by decide +kernel)) (List.mem_of_getElem? (i := 618) (by decide +kernel)) (List.mem_of_getElem? (i := 619) (by decide +kernel)) (zd_dr dc_Dv_split 42 rfl)) ?_
  refine zd_ac (ok_aload_n (l := l) (B := B) (y := m_Dv_split) (pc := 81) (k := 1) rfl (zd_dr dc_Dv_split 43 rfl)) ?_
  refine zd_ac (ok_getf (l := l) (B := B) (y := m_Dv_split) (pc := 82) hG (C := zR4) (T := zT4) (N := 2) (ci := 4) (k := 1) rfl zl4 (by decide) (List.mem_of_getElem? (i := 99) (by decide +kernel)) (zd_dr dc_Dv_split 44 rfl)) ?_
  refine zd_ac (ok_iload (l := l) (B := B) (y := m_Dv_split) (pc := 85) (zd_dr dc_Dv_split 45 rfl)) ?_
  refine zd_ac (ok_icmp_ne (l := l) (B := B) (y := m_Dv_split) (pc := 87) (zd_dr dc_Dv_split 46 rfl) (by decide)) ?_
  refine zd_ac (ok_aload_n (l := l) (B := B) (y := m_Dv_split) (pc := 90) (k := 1) rfl (zd_dr dc_Dv_split 47 rfl)) ?_
  refine zd_ac (ok_iload (l := l) (B := B) (y := m_Dv_split) (pc := 91) (zd_dr dc_Dv_split 48 rfl)) ?_
  refine zd_ac (ok_iconst (l := l) (B := B) (y := m_Dv_split) (pc := 93) (n := (1)) (zd_dr dc_Dv_split 49 rfl) rfl) ?_
  refine zd_ac (ok_iadd (l := l) (B := B) (y := m_Dv_split) (pc := 94) (zd_dr dc_Dv_split 50 rfl)) ?_
  refine zd_ac (ok_callv (l := l) (B := B) (y := m_Dv_split) (pc := 95) hG (ci := 4) rfl cf_Dv_split_Na_claim rfl (List.mem_of_getElem? (i := 614) (by decide +kernel)) (List.mem_of_getElem? (i := 442) (by decide +kernel)) (List.mem_of_getElem? (i := 443) (by decide +kernel)) (zd_dr dc_Dv_split 51 rfl)) ?_
  refine zd_ac (ok_aload_n (l := l) (B := B) (y := m_Dv_split) (pc := 98) (k := 1) rfl (zd_dr dc_Dv_split 52 rfl)) ?_
  refine zd_ac (ok_getf (l := l) (B := B) (y := m_Dv_split) (pc := 99) hG (C := zR4) (T := zT4) (N := 2) (ci := 4) (k := 0) rfl zl4 (by decide) (List.mem_of_getElem? (i := 97) (by decide +kernel)) (zd_dr dc_Dv_split 53 rfl)) ?_
  refine zd_ac (ok_iload (l := l) (B := B) (y := m_Dv_split) (pc := 102) (zd_dr dc_Dv_split 54 rfl)) ?_
  refine zd_ac (ok_iconst (l := l) (B := B) (y := m_Dv_split) (pc := 104) (n := (0)) (zd_dr dc_Dv_split 55 rfl) rfl) ?_
  refine zd_ac (ok_iastore (l := l) (B := B) (y := m_Dv_split) (pc := 105) hG (zd_dr dc_Dv_split 56 rfl)) ?_
  refine zd_ac (ok_aload_n (l := l) (B := B) (y := m_Dv_split) (pc := 106) (k := 3) rfl (zd_dr dc_Dv_split 57 rfl)) ?_
  refine zd_ac (ok_iload (l := l) (B := B) (y := m_Dv_split) (pc := 107) (zd_dr dc_Dv_split 58 rfl)) ?_
  refine zd_ac (ok_aload_n (l := l) (B := B) (y := m_Dv_split) (pc := 109) (k := 0) rfl (zd_dr dc_Dv_split 59 rfl)) ?_
  refine zd_ac (ok_getf (l := l) (B := B) (y := m_Dv_split) (pc := 110) hG (C := zR2) (T := zT2) (N := 1) (ci := 2) (k := 0) rfl zl2 (by decide) (List.mem_of_getElem? (i := 179) (by decide +kernel)) (zd_dr dc_Dv_split 60 rfl)) ?_
  refine zd_ac (ok_getf (l := l) (B := B) (y := m_Dv_split) (pc := 113) hG (C := zR4) (T := zT4) (N := 2) (ci := 4) (k := 1) rfl zl4 (by decide) (List.mem_of_getElem? (i := 99) (by decide +kernel)) (zd_dr dc_Dv_split 61 rfl)) ?_
  refine zd_ac (ok_isub (l := l) (B := B) (y := m_Dv_split) (pc := 116) (zd_dr dc_Dv_split 62 rfl)) ?_
  refine zd_ac (ok_iconst (l := l) (B := B) (y := m_Dv_split) (pc := 117) (n := (1)) (zd_dr dc_Dv_split 63 rfl) rfl) ?_
  refine zd_ac (ok_iadd (l := l) (B := B) (y := m_Dv_split) (pc := 118) (zd_dr dc_Dv_split 64 rfl)) ?_
  refine zd_ac (ok_callv (l := l) (B := B) (y := m_Dv_split) (pc := 119) hG (ci := 4) rfl cf_Dv_split_Na_claim rfl (List.mem_of_getElem? (i := 614) (by decide +kernel)) (List.mem_of_getElem? (i := 442) (by decide +kernel)) (List.mem_of_getElem? (i := 443) (by decide +kernel)) (zd_dr dc_Dv_split 65 rfl)) ?_
  refine zd_ac (ok_iload (l := l) (B := B) (y := m_Dv_split) (pc := 122) (zd_dr dc_Dv_split 66 rfl)) ?_
  refine zd_ac (ok_aload_n (l := l) (B := B) (y := m_Dv_split) (pc := 124) (k := 0) rfl (zd_dr dc_Dv_split 67 rfl)) ?_
  refine zd_ac (ok_getf (l := l) (B := B) (y := m_Dv_split) (pc := 125) hG (C := zR2) (T := zT2) (N := 1) (ci := 2) (k := 0) rfl zl2 (by decide) (List.mem_of_getElem? (i := 179) (by decide +kernel)) (zd_dr dc_Dv_split 68 rfl)) ?_
  refine zd_ac (ok_getf (l := l) (B := B) (y := m_Dv_split) (pc := 128) hG (C := zR4) (T := zT4) (N := 2) (ci := 4) (k := 1) rfl zl4 (by decide) (List.mem_of_getElem? (i := 99) (by decide +kernel)) (zd_dr dc_Dv_split 69 rfl)) ?_
  refine zd_ac (ok_isub (l := l) (B := B) (y := m_Dv_split) (pc := 131) (zd_dr dc_Dv_split 70 rfl)) ?_
  refine zd_ac (ok_istore (l := l) (B := B) (y := m_Dv_split) (pc := 132) (zd_dr dc_Dv_split 71 rfl) (by decide)) ?_
  refine zd_ac (ok_iload (l := l) (B := B) (y := m_Dv_split) (pc := 134) (zd_dr dc_Dv_split 72 rfl)) ?_
  refine zd_ac (ok_if_lt (l := l) (B := B) (y := m_Dv_split) (pc := 136) (zd_dr dc_Dv_split 73 rfl) (by decide)) ?_
  refine zd_ac (ok_aload_n (l := l) (B := B) (y := m_Dv_split) (pc := 139) (k := 3) rfl (zd_dr dc_Dv_split 74 rfl)) ?_
  refine zd_ac (ok_getf (l := l) (B := B) (y := m_Dv_split) (pc := 140) hG (C := zR4) (T := zT4) (N := 2) (ci := 4) (k := 0) rfl zl4 (by decide) (List.mem_of_getElem? (i := 97) (by decide +kernel)) (zd_dr dc_Dv_split 75 rfl)) ?_
  refine zd_ac (ok_iload (l := l) (B := B) (y := m_Dv_split) (pc := 143) (zd_dr dc_Dv_split 76 rfl)) ?_
  refine zd_ac (ok_aload_n (l := l) (B := B) (y := m_Dv_split) (pc := 145) (k := 0) rfl (zd_dr dc_Dv_split 77 rfl)) ?_
  refine zd_ac (ok_aload_n (l := l) (B := B) (y := m_Dv_split) (pc := 146) (k := 1) rfl (zd_dr dc_Dv_split 78 rfl)) ?_
  refine zd_ac (ok_getf (l := l) (B := B) (y := m_Dv_split) (pc := 147) hG (C := zR4) (T := zT4) (N := 2) (ci := 4) (k := 0) rfl zl4 (by decide) (List.mem_of_getElem? (i := 97) (by decide +kernel)) (zd_dr dc_Dv_split 79 rfl)) ?_
  refine zd_ac (ok_iload (l := l) (B := B) (y := m_Dv_split) (pc := 150) (zd_dr dc_Dv_split 80 rfl)) ?_
  refine zd_ac (ok_callv (l := l) (B := B) (y := m_Dv_split) (pc := 152) hG (ci := 2) rfl cf_Dv_split_Dv_takeLimb rfl (List.mem_of_getElem? (i := 621) (by decide +kernel)) (List.mem_of_getElem? (i := 623) (by decide +kernel)) (List.mem_of_getElem? (i := 10) (by decide +kernel)) (zd_dr dc_Dv_split 81 rfl)) ?_
  refine zd_ac (ok_iastore (l := l) (B := B) (y := m_Dv_split) (pc := 155) hG (zd_dr dc_Dv_split 82 rfl)) ?_
  refine zd_ac (ok_iinc (l := l) (B := B) (y := m_Dv_split) (pc := 156) (zd_dr dc_Dv_split 83 rfl) (by decide) rfl) ?_
  refine zd_ac (ok_goto (l := l) (B := B) (y := m_Dv_split) (pc := 159) (zd_dr dc_Dv_split 84 rfl) (by decide)) ?_
  refine zd_ac (ok_aload_n (l := l) (B := B) (y := m_Dv_split) (pc := 162) (k := 3) rfl (zd_dr dc_Dv_split 85 rfl)) ?_
  refine zd_ac (ok_callv (l := l) (B := B) (y := m_Dv_split) (pc := 163) hG (ci := 4) rfl cf_Dv_split_Na_trim rfl (List.mem_of_getElem? (i := 638) (by decide +kernel)) (List.mem_of_getElem? (i := 455) (by decide +kernel)) (List.mem_of_getElem? (i := 456) (by decide +kernel)) (zd_dr dc_Dv_split 86 rfl)) ?_
  refine zd_ac (ok_aload_n (l := l) (B := B) (y := m_Dv_split) (pc := 166) (k := 1) rfl (zd_dr dc_Dv_split 87 rfl)) ?_
  refine zd_ac (ok_callv (l := l) (B := B) (y := m_Dv_split) (pc := 167) hG (ci := 4) rfl cf_Dv_split_Na_trim rfl (List.mem_of_getElem? (i := 638) (by decide +kernel)) (List.mem_of_getElem? (i := 455) (by decide +kernel)) (List.mem_of_getElem? (i := 456) (by decide +kernel)) (zd_dr dc_Dv_split 88 rfl)) ?_
  refine zd_ac (ok_aload_n (l := l) (B := B) (y := m_Dv_split) (pc := 170) (k := 1) rfl (zd_dr dc_Dv_split 89 rfl)) ?_
  refine zd_ac (ok_iload (l := l) (B := B) (y := m_Dv_split) (pc := 171) (zd_dr dc_Dv_split 90 rfl)) ?_
  refine zd_ac (ok_callv (l := l) (B := B) (y := m_Dv_split) (pc := 173) hG (ci := 4) rfl cf_Dv_split_Na_overSmall rfl (List.mem_of_getElem? (i := 639) (by decide +kernel)) (List.mem_of_getElem? (i := 640) (by decide +kernel)) (List.mem_of_getElem? (i := 641) (by decide +kernel)) (zd_dr dc_Dv_split 91 rfl)) ?_
  refine zd_ac (ok_vret (l := l) (B := B) (y := m_Dv_split) (pc := 176) rfl (zd_dr dc_Dv_split 92 rfl)) ?_
  exact zd_an
def dl_Dv_takeLimb : List (Nat × Instr × Nat) := [(0, .iload_n 2, 1), (1, .aload_n 0, 1), (2, .getfield 14, 3), (5, .getfield 20, 3), (8, .iadd, 1), (9, .istore_n 3, 1), (10, .aload_n 0, 1), (11, .aload_n 1, 1), (12, .iload_n 3, 1), (13, .invokevirtual 56, 3), (16, .lstore 4, 2), (18, .lload 4, 2), (20, .lconst 0, 1), (21, .lcmp, 1), (22, .ifCond .le (26), 3), (25, .aload_n 0, 1), (26, .aload_n 1, 1), (27, .iload_n 2, 1), (28, .lload 4, 2), (30, .invokevirtual 60, 3), (33, .ifCond .eq (15), 3), (36, .aload_n 0, 1), (37, .aload_n 1, 1), (38, .iload_n 2, 1), (39, .invokevirtual 64, 3), (42, .lload 4, 2), (44, .lconst 1, 1), (45, .lsub, 1), (46, .lstore 4, 2), (48, .lload 4, 2), (50, .l2i, 1), (51, .ireturn, 1)]
theorem dc_Dv_takeLimb : ∀ q ∈ dl_Dv_takeLimb, decode (zd_yb m_Dv_takeLimb) q.1 = .ok q.2 := by decide +kernel
def cd_Dv_takeLimb (l : Launch) (B : zd_B) : List (Nat × zd_S) := [(0, oc_iload 2 1), (1, oc_aload 0 2), (2, oc_getf B 2 0 5), (5, oc_getf B 4 1 8), (8, oc_iadd 9), (9, oc_istore 3 10), (10, oc_aload 0 11), (11, oc_aload 1 12), (12, oc_iload 3 13), (13, oc_callv l B 2 m_Dv_guessLimb 2 16), (16, oc_lstore 4 18), (18, oc_lload 4 20), (20, oc_cl 0 21), (21, oc_lcmp 22), (22, oc_if_le 48 25), (25, oc_aload 0 26), (26, oc_aload 1 27), (27, oc_iload 2 28), (28, oc_lload 4 30), (30, oc_callv l B 2 m_Dv_subtractTimes 3 33), (33, oc_if_eq 48 36), (36, oc_aload 0 37), (37, oc_aload 1 38), (38, oc_iload 2 39), (39, oc_callv l B 2 m_Dv_giveBack 2 42), (42, oc_lload 4 44), (44, oc_cl 1 45), (45, oc_lsub 46), (46, oc_lstore 4 48), (48, oc_lload 4 50), (50, oc_l2i 51), (51, oc_iret .int)]
set_option maxRecDepth 20000 in
theorem ok_Dv_takeLimb {l : Launch} {B : zd_B} (hG : zd_G B) (hl : l.stackTraces = false) : ∀ q ∈ cd_Dv_takeLimb l B, zd_ok l B m_Dv_takeLimb q.1 q.2 := by
  unfold cd_Dv_takeLimb
  refine zd_ac (ok_iload_n (l := l) (B := B) (y := m_Dv_takeLimb) (pc := 0) (k := 2) rfl (zd_dr dc_Dv_takeLimb 0 rfl)) ?_
  refine zd_ac (ok_aload_n (l := l) (B := B) (y := m_Dv_takeLimb) (pc := 1) (k := 0) rfl (zd_dr dc_Dv_takeLimb 1 rfl)) ?_
  refine zd_ac (ok_getf (l := l) (B := B) (y := m_Dv_takeLimb) (pc := 2) hG (C := zR2) (T := zT2) (N := 1) (ci := 2) (k := 0) rfl zl2 (by decide) (List.mem_of_getElem? (i := 179) (by decide +kernel)) (zd_dr dc_Dv_takeLimb 2 rfl)) ?_
  refine zd_ac (ok_getf (l := l) (B := B) (y := m_Dv_takeLimb) (pc := 5) hG (C := zR4) (T := zT4) (N := 2) (ci := 4) (k := 1) rfl zl4 (by decide) (List.mem_of_getElem? (i := 99) (by decide +kernel)) (zd_dr dc_Dv_takeLimb 3 rfl)) ?_
  refine zd_ac (ok_iadd (l := l) (B := B) (y := m_Dv_takeLimb) (pc := 8) (zd_dr dc_Dv_takeLimb 4 rfl)) ?_
  refine zd_ac (ok_istore_n (l := l) (B := B) (y := m_Dv_takeLimb) (pc := 9) (k := 3) rfl (zd_dr dc_Dv_takeLimb 5 rfl) (by decide)) ?_
  refine zd_ac (ok_aload_n (l := l) (B := B) (y := m_Dv_takeLimb) (pc := 10) (k := 0) rfl (zd_dr dc_Dv_takeLimb 6 rfl)) ?_
  refine zd_ac (ok_aload_n (l := l) (B := B) (y := m_Dv_takeLimb) (pc := 11) (k := 1) rfl (zd_dr dc_Dv_takeLimb 7 rfl)) ?_
  refine zd_ac (ok_iload_n (l := l) (B := B) (y := m_Dv_takeLimb) (pc := 12) (k := 3) rfl (zd_dr dc_Dv_takeLimb 8 rfl)) ?_
  refine zd_ac (ok_callv (l := l) (B := B) (y := m_Dv_takeLimb) (pc := 13) hG (ci := 2) rfl cf_Dv_takeLimb_Dv_guessLimb rfl (List.mem_of_getElem? (i := 625) (by decide +kernel)) (List.mem_of_getElem? (i := 627) (by decide +kernel)) (List.mem_of_getElem? (i := 11) (by decide +kernel)) (zd_dr dc_Dv_takeLimb 9 rfl)) ?_
  refine zd_ac (ok_lstore (l := l) (B := B) (y := m_Dv_takeLimb) (pc := 16) (zd_dr dc_Dv_takeLimb 10 rfl) (by decide)) ?_
  refine zd_ac (ok_lload (l := l) (B := B) (y := m_Dv_takeLimb) (pc := 18) (zd_dr dc_Dv_takeLimb 11 rfl)) ?_
  refine zd_ac (ok_lconst (l := l) (B := B) (y := m_Dv_takeLimb) (pc := 20) (n := 0) (zd_dr dc_Dv_takeLimb 12 rfl) rfl) ?_
  refine zd_ac (ok_lcmp (l := l) (B := B) (y := m_Dv_takeLimb) (pc := 21) (zd_dr dc_Dv_takeLimb 13 rfl)) ?_
  refine zd_ac (ok_if_le (l := l) (B := B) (y := m_Dv_takeLimb) (pc := 22) (zd_dr dc_Dv_takeLimb 14 rfl) (by decide)) ?_
  refine zd_ac (ok_aload_n (l := l) (B := B) (y := m_Dv_takeLimb) (pc := 25) (k := 0) rfl (zd_dr dc_Dv_takeLimb 15 rfl)) ?_
  refine zd_ac (ok_aload_n (l := l) (B := B) (y := m_Dv_takeLimb) (pc := 26) (k := 1) rfl (zd_dr dc_Dv_takeLimb 16 rfl)) ?_
  refine zd_ac (ok_iload_n (l := l) (B := B) (y := m_Dv_takeLimb) (pc := 27) (k := 2) rfl (zd_dr dc_Dv_takeLimb 17 rfl)) ?_
  refine zd_ac (ok_lload (l := l) (B := B) (y := m_Dv_takeLimb) (pc := 28) (zd_dr dc_Dv_takeLimb 18 rfl)) ?_
  refine zd_ac (ok_callv (l := l) (B := B) (y := m_Dv_takeLimb) (pc := 30) hG (ci := 2) rfl cf_Dv_takeLimb_Dv_subtractTimes rfl (List.mem_of_getElem? (i := 630) (by decide +kernel)) (List.mem_of_getElem? (i := 632) (by decide +kernel)) (List.mem_of_getElem? (i := 12) (by decide +kernel)) (zd_dr dc_Dv_takeLimb 19 rfl)) ?_
  refine zd_ac (ok_if_eq (l := l) (B := B) (y := m_Dv_takeLimb) (pc := 33) (zd_dr dc_Dv_takeLimb 20 rfl) (by decide)) ?_
  refine zd_ac (ok_aload_n (l := l) (B := B) (y := m_Dv_takeLimb) (pc := 36) (k := 0) rfl (zd_dr dc_Dv_takeLimb 21 rfl)) ?_
  refine zd_ac (ok_aload_n (l := l) (B := B) (y := m_Dv_takeLimb) (pc := 37) (k := 1) rfl (zd_dr dc_Dv_takeLimb 22 rfl)) ?_
  refine zd_ac (ok_iload_n (l := l) (B := B) (y := m_Dv_takeLimb) (pc := 38) (k := 2) rfl (zd_dr dc_Dv_takeLimb 23 rfl)) ?_
  refine zd_ac (ok_callv (l := l) (B := B) (y := m_Dv_takeLimb) (pc := 39) hG (ci := 2) rfl cf_Dv_takeLimb_Dv_giveBack rfl (List.mem_of_getElem? (i := 634) (by decide +kernel)) (List.mem_of_getElem? (i := 636) (by decide +kernel)) (List.mem_of_getElem? (i := 13) (by decide +kernel)) (zd_dr dc_Dv_takeLimb 24 rfl)) ?_
  refine zd_ac (ok_lload (l := l) (B := B) (y := m_Dv_takeLimb) (pc := 42) (zd_dr dc_Dv_takeLimb 25 rfl)) ?_
  refine zd_ac (ok_lconst (l := l) (B := B) (y := m_Dv_takeLimb) (pc := 44) (n := 1) (zd_dr dc_Dv_takeLimb 26 rfl) rfl) ?_
  refine zd_ac (ok_lsub (l := l) (B := B) (y := m_Dv_takeLimb) (pc := 45) (zd_dr dc_Dv_takeLimb 27 rfl)) ?_
  refine zd_ac (ok_lstore (l := l) (B := B) (y := m_Dv_takeLimb) (pc := 46) (zd_dr dc_Dv_takeLimb 28 rfl) (by decide)) ?_
  refine zd_ac (ok_lload (l := l) (B := B) (y := m_Dv_takeLimb) (pc := 48) (zd_dr dc_Dv_takeLimb 29 rfl)) ?_
  refine zd_ac (ok_l2i (l := l) (B := B) (y := m_Dv_takeLimb) (pc := 50) (zd_dr dc_Dv_takeLimb 30 rfl)) ?_
  refine zd_ac (ok_iret (l := l) (B := B) (y := m_Dv_takeLimb) (pc := 51) rfl (zd_dr dc_Dv_takeLimb 31 rfl)) ?_
  exact zd_an
def dl_Dv_guessLimb : List (Nat × Instr × Nat) := [(0, .aload_n 0, 1), (1, .getfield 14, 3), (4, .getfield 20, 3), (7, .istore_n 3, 1), (8, .iload_n 3, 1), (9, .ifCond .le (18), 3), (12, .aload_n 0, 1), (13, .getfield 14, 3), (16, .getfield 35, 3), (19, .iload_n 3, 1), (20, .iconst (1), 1), (21, .isub, 1), (22, .iaload, 1), (23, .i2l, 1), (24, .goto (4), 3), (27, .lconst 0, 1), (28, .lstore 4, 2), (30, .lload 4, 2), (32, .lconst 0, 1), (33, .lcmp, 1), (34, .ifCond .gt (5), 3), (37, .lconst 0, 1), (38, .lreturn, 1), (39, .iload_n 3, 1), (40, .iconst (1), 1), (41, .if_icmp .le (18), 3), (44, .aload_n 0, 1), (45, .getfield 14, 3), (48, .getfield 35, 3), (51, .iload_n 3, 1), (52, .iconst (2), 1), (53, .isub, 1), (54, .iaload, 1), (55, .i2l, 1), (56, .goto (4), 3), (59, .lconst 0, 1), (60, .lstore 6, 2), (62, .iload_n 3, 1), (63, .iconst (1), 1), (64, .if_icmp .le (12), 3), (67, .aload_n 1, 1), (68, .iload_n 2, 1), (69, .iconst (2), 1), (70, .isub, 1), (71, .iaload, 1), (72, .i2l, 1), (73, .goto (4), 3), (76, .lconst 0, 1), (77, .lstore 8, 2), (79, .aload_n 1, 1), (80, .iload_n 2, 1), (81, .iaload, 1), (82, .i2l, 1), (83, .ldc2_w 68, 3), (86, .lmul, 1), (87, .aload_n 1, 1), (88, .iload_n 2, 1), (89, .iconst (1), 1), (90, .isub, 1), (91, .iaload, 1), (92, .i2l, 1), (93, .ladd, 1), (94, .lstore 10, 2), (96, .lload 10, 2), (98, .lload 4, 2), (100, .ldiv, 1), (101, .lstore 12, 2), (103, .lload 10, 2), (105, .lload 12, 2), (107, .lload 4, 2), (109, .lmul, 1), (110, .lsub, 1), (111, .lstore 14, 2), (113, .iconst (0), 1), (114, .istore 16, 2), (116, .iload 16, 2), (118, .iconst (2), 1), (119, .if_icmp .ge (61), 3), (122, .lload 14, 2), (124, .ldc2_w 68, 3), (127, .lcmp, 1), (128, .ifCond .ge (52), 3), (131, .lload 12, 2), (133, .ldc2_w 68, 3), (136, .lcmp, 1), (137, .ifCond .ge (24), 3), (140, .lload 12, 2), (142, .lload 6, 2), (144, .lmul, 1), (145, .lload 14, 2), (147, .ldc2_w 68, 3), (150, .lmul, 1), (151, .lload 8, 2), (153, .ladd, 1), (154, .lcmp, 1), (155, .ifCond .gt (6), 3), (158, .goto (22), 3), (161, .lload 12, 2), (163, .lconst 1, 1), (164, .lsub, 1), (165, .lstore 12, 2), (167, .lload 14, 2), (169, .lload 4, 2), (171, .ladd, 1), (172, .lstore 14, 2), (174, .iinc 16 (1), 3), (177, .goto (-61), 3), (180, .lload 12, 2), (182, .lreturn, 1)]
theorem dc_Dv_guessLimb : ∀ q ∈ dl_Dv_guessLimb, decode (zd_yb m_Dv_guessLimb) q.1 = .ok q.2 := by decide +kernel
def cd_Dv_guessLimb (l : Launch) (B : zd_B) : List (Nat × zd_S) := [(0, oc_aload 0 1), (1, oc_getf B 2 0 4), (4, oc_getf B 4 1 7), (7, oc_istore 3 8), (8, oc_iload 3 9), (9, oc_if_le 27 12), (12, oc_aload 0 13), (13, oc_getf B 2 0 16), (16, oc_getf B 4 0 19), (19, oc_iload 3 20), (20, oc_ci (1) 21), (21, oc_isub 22), (22, oc_iaload B 23), (23, oc_i2l 24), (24, oc_goto 28), (27, oc_cl 0 28), (28, oc_lstore 4 30), (30, oc_lload 4 32), (32, oc_cl 0 33), (33, oc_lcmp 34), (34, oc_if_gt 39 37), (37, oc_cl 0 38), (38, oc_lret), (39, oc_iload 3 40), (40, oc_ci (1) 41), (41, oc_icmp_le 59 44), (44, oc_aload 0 45), (45, oc_getf B 2 0 48), (48, oc_getf B 4 0 51), (51, oc_iload 3 52), (52, oc_ci (2) 53), (53, oc_isub 54), (54, oc_iaload B 55), (55, oc_i2l 56), (56, oc_goto 60), (59, oc_cl 0 60), (60, oc_lstore 6 62), (62, oc_iload 3 63), (63, oc_ci (1) 64), (64, oc_icmp_le 76 67), (67, oc_aload 1 68), (68, oc_iload 2 69), (69, oc_ci (2) 70), (70, oc_isub 71), (71, oc_iaload B 72), (72, oc_i2l 73), (73, oc_goto 77), (76, oc_cl 0 77), (77, oc_lstore 8 79), (79, oc_aload 1 80), (80, oc_iload 2 81), (81, oc_iaload B 82), (82, oc_i2l 83), (83, oc_cl (1000000000) 86), (86, oc_lmul 87), (87, oc_aload 1 88), (88, oc_iload 2 89), (89, oc_ci (1) 90), (90, oc_isub 91), (91, oc_iaload B 92), (92, oc_i2l 93), (93, oc_ladd 94), (94, oc_lstore 10 96), (96, oc_lload 10 98), (98, oc_lload 4 100), (100, oc_ldiv 101), (101, oc_lstore 12 103), (103, oc_lload 10 105), (105, oc_lload 12 107), (107, oc_lload 4 109), (109, oc_lmul 110), (110, oc_lsub 111), (111, oc_lstore 14 113), (113, oc_ci (0) 114), (114, oc_istore 16 116), (116, oc_iload 16 118), (118, oc_ci (2) 119), (119, oc_icmp_ge 180 122), (122, oc_lload 14 124), (124, oc_cl (1000000000) 127), (127, oc_lcmp 128), (128, oc_if_ge 180 131), (131, oc_lload 12 133), (133, oc_cl (1000000000) 136), (136, oc_lcmp 137), (137, oc_if_ge 161 140), (140, oc_lload 12 142), (142, oc_lload 6 144), (144, oc_lmul 145), (145, oc_lload 14 147), (147, oc_cl (1000000000) 150), (150, oc_lmul 151), (151, oc_lload 8 153), (153, oc_ladd 154), (154, oc_lcmp 155), (155, oc_if_gt 161 158), (158, oc_goto 180), (161, oc_lload 12 163), (163, oc_cl 1 164), (164, oc_lsub 165), (165, oc_lstore 12 167), (167, oc_lload 14 169), (169, oc_lload 4 171), (171, oc_ladd 172), (172, oc_lstore 14 174), (174, oc_iinc 16 (1) 177), (177, oc_goto 116), (180, oc_lload 12 182), (182, oc_lret)]
set_option maxRecDepth 20000 in
theorem ok_Dv_guessLimb {l : Launch} {B : zd_B} (hG : zd_G B) (hl : l.stackTraces = false) : ∀ q ∈ cd_Dv_guessLimb l B, zd_ok l B m_Dv_guessLimb q.1 q.2 := by
  unfold cd_Dv_guessLimb
  refine zd_ac (ok_aload_n (l := l) (B := B) (y := m_Dv_guessLimb) (pc := 0) (k := 0) rfl (zd_dr dc_Dv_guessLimb 0 rfl)) ?_
  refine zd_ac (ok_getf (l := l) (B := B) (y := m_Dv_guessLimb) (pc := 1) hG (C := zR2) (T := zT2) (N := 1) (ci := 2) (k := 0) rfl zl2 (by decide) (List.mem_of_getElem? (i := 179) (by decide +kernel)) (zd_dr dc_Dv_guessLimb 1 rfl)) ?_
  refine zd_ac (ok_getf (l := l) (B := B) (y := m_Dv_guessLimb) (pc := 4) hG (C := zR4) (T := zT4) (N := 2) (ci := 4) (k := 1) rfl zl4 (by decide) (List.mem_of_getElem? (i := 99) (by decide +kernel)) (zd_dr dc_Dv_guessLimb 2 rfl)) ?_
  refine zd_ac (ok_istore_n (l := l) (B := B) (y := m_Dv_guessLimb) (pc := 7) (k := 3) rfl (zd_dr dc_Dv_guessLimb 3 rfl) (by decide)) ?_
  refine zd_ac (ok_iload_n (l := l) (B := B) (y := m_Dv_guessLimb) (pc := 8) (k := 3) rfl (zd_dr dc_Dv_guessLimb 4 rfl)) ?_
  refine zd_ac (ok_if_le (l := l) (B := B) (y := m_Dv_guessLimb) (pc := 9) (zd_dr dc_Dv_guessLimb 5 rfl) (by decide)) ?_
  refine zd_ac (ok_aload_n (l := l) (B := B) (y := m_Dv_guessLimb) (pc := 12) (k := 0) rfl (zd_dr dc_Dv_guessLimb 6 rfl)) ?_
  refine zd_ac (ok_getf (l := l) (B := B) (y := m_Dv_guessLimb) (pc := 13) hG (C := zR2) (T := zT2) (N := 1) (ci := 2) (k := 0) rfl zl2 (by decide) (List.mem_of_getElem? (i := 179) (by decide +kernel)) (zd_dr dc_Dv_guessLimb 7 rfl)) ?_
  refine zd_ac (ok_getf (l := l) (B := B) (y := m_Dv_guessLimb) (pc := 16) hG (C := zR4) (T := zT4) (N := 2) (ci := 4) (k := 0) rfl zl4 (by decide) (List.mem_of_getElem? (i := 97) (by decide +kernel)) (zd_dr dc_Dv_guessLimb 8 rfl)) ?_
  refine zd_ac (ok_iload_n (l := l) (B := B) (y := m_Dv_guessLimb) (pc := 19) (k := 3) rfl (zd_dr dc_Dv_guessLimb 9 rfl)) ?_
  refine zd_ac (ok_iconst (l := l) (B := B) (y := m_Dv_guessLimb) (pc := 20) (n := (1)) (zd_dr dc_Dv_guessLimb 10 rfl) rfl) ?_
  refine zd_ac (ok_isub (l := l) (B := B) (y := m_Dv_guessLimb) (pc := 21) (zd_dr dc_Dv_guessLimb 11 rfl)) ?_
  refine zd_ac (ok_iaload (l := l) (B := B) (y := m_Dv_guessLimb) (pc := 22) hG (zd_dr dc_Dv_guessLimb 12 rfl)) ?_
  refine zd_ac (ok_i2l (l := l) (B := B) (y := m_Dv_guessLimb) (pc := 23) (zd_dr dc_Dv_guessLimb 13 rfl)) ?_
  refine zd_ac (ok_goto (l := l) (B := B) (y := m_Dv_guessLimb) (pc := 24) (zd_dr dc_Dv_guessLimb 14 rfl) (by decide)) ?_
  refine zd_ac (ok_lconst (l := l) (B := B) (y := m_Dv_guessLimb) (pc := 27) (n := 0) (zd_dr dc_Dv_guessLimb 15 rfl) rfl) ?_
  refine zd_ac (ok_lstore (l := l) (B := B) (y := m_Dv_guessLimb) (pc := 28) (zd_dr dc_Dv_guessLimb 16 rfl) (by decide)) ?_
  refine zd_ac (ok_lload (l := l) (B := B) (y := m_Dv_guessLimb) (pc := 30) (zd_dr dc_Dv_guessLimb 17 rfl)) ?_
  refine zd_ac (ok_lconst (l := l) (B := B) (y := m_Dv_guessLimb) (pc := 32) (n := 0) (zd_dr dc_Dv_guessLimb 18 rfl) rfl) ?_
  refine zd_ac (ok_lcmp (l := l) (B := B) (y := m_Dv_guessLimb) (pc := 33) (zd_dr dc_Dv_guessLimb 19 rfl)) ?_
  refine zd_ac (ok_if_gt (l := l) (B := B) (y := m_Dv_guessLimb) (pc := 34) (zd_dr dc_Dv_guessLimb 20 rfl) (by decide)) ?_
  refine zd_ac (ok_lconst (l := l) (B := B) (y := m_Dv_guessLimb) (pc := 37) (n := 0) (zd_dr dc_Dv_guessLimb 21 rfl) rfl) ?_
  refine zd_ac (ok_lret (l := l) (B := B) (y := m_Dv_guessLimb) (pc := 38) rfl (zd_dr dc_Dv_guessLimb 22 rfl)) ?_
  refine zd_ac (ok_iload_n (l := l) (B := B) (y := m_Dv_guessLimb) (pc := 39) (k := 3) rfl (zd_dr dc_Dv_guessLimb 23 rfl)) ?_
  refine zd_ac (ok_iconst (l := l) (B := B) (y := m_Dv_guessLimb) (pc := 40) (n := (1)) (zd_dr dc_Dv_guessLimb 24 rfl) rfl) ?_
  refine zd_ac (ok_icmp_le (l := l) (B := B) (y := m_Dv_guessLimb) (pc := 41) (zd_dr dc_Dv_guessLimb 25 rfl) (by decide)) ?_
  refine zd_ac (ok_aload_n (l := l) (B := B) (y := m_Dv_guessLimb) (pc := 44) (k := 0) rfl (zd_dr dc_Dv_guessLimb 26 rfl)) ?_
  refine zd_ac (ok_getf (l := l) (B := B) (y := m_Dv_guessLimb) (pc := 45) hG (C := zR2) (T := zT2) (N := 1) (ci := 2) (k := 0) rfl zl2 (by decide) (List.mem_of_getElem? (i := 179) (by decide +kernel)) (zd_dr dc_Dv_guessLimb 27 rfl)) ?_
  refine zd_ac (ok_getf (l := l) (B := B) (y := m_Dv_guessLimb) (pc := 48) hG (C := zR4) (T := zT4) (N := 2) (ci := 4) (k := 0) rfl zl4 (by decide) (List.mem_of_getElem? (i := 97) (by decide +kernel)) (zd_dr dc_Dv_guessLimb 28 rfl)) ?_
  refine zd_ac (ok_iload_n (l := l) (B := B) (y := m_Dv_guessLimb) (pc := 51) (k := 3) rfl (zd_dr dc_Dv_guessLimb 29 rfl)) ?_
  refine zd_ac (ok_iconst (l := l) (B := B) (y := m_Dv_guessLimb) (pc := 52) (n := (2)) (zd_dr dc_Dv_guessLimb 30 rfl) rfl) ?_
  refine zd_ac (ok_isub (l := l) (B := B) (y := m_Dv_guessLimb) (pc := 53) (zd_dr dc_Dv_guessLimb 31 rfl)) ?_
  refine zd_ac (ok_iaload (l := l) (B := B) (y := m_Dv_guessLimb) (pc := 54) hG (zd_dr dc_Dv_guessLimb 32 rfl)) ?_
  refine zd_ac (ok_i2l (l := l) (B := B) (y := m_Dv_guessLimb) (pc := 55) (zd_dr dc_Dv_guessLimb 33 rfl)) ?_
  refine zd_ac (ok_goto (l := l) (B := B) (y := m_Dv_guessLimb) (pc := 56) (zd_dr dc_Dv_guessLimb 34 rfl) (by decide)) ?_
  refine zd_ac (ok_lconst (l := l) (B := B) (y := m_Dv_guessLimb) (pc := 59) (n := 0) (zd_dr dc_Dv_guessLimb 35 rfl) rfl) ?_
  refine zd_ac (ok_lstore (l := l) (B := B) (y := m_Dv_guessLimb) (pc := 60) (zd_dr dc_Dv_guessLimb 36 rfl) (by decide)) ?_
  refine zd_ac (ok_iload_n (l := l) (B := B) (y := m_Dv_guessLimb) (pc := 62) (k := 3) rfl (zd_dr dc_Dv_guessLimb 37 rfl)) ?_
  refine zd_ac (ok_iconst (l := l) (B := B) (y := m_Dv_guessLimb) (pc := 63) (n := (1)) (zd_dr dc_Dv_guessLimb 38 rfl) rfl) ?_
  refine zd_ac (ok_icmp_le (l := l) (B := B) (y := m_Dv_guessLimb) (pc := 64) (zd_dr dc_Dv_guessLimb 39 rfl) (by decide)) ?_
  refine zd_ac (ok_aload_n (l := l) (B := B) (y := m_Dv_guessLimb) (pc := 67) (k := 1) rfl (zd_dr dc_Dv_guessLimb 40 rfl)) ?_
  refine zd_ac (ok_iload_n (l := l) (B := B) (y := m_Dv_guessLimb) (pc := 68) (k := 2) rfl (zd_dr dc_Dv_guessLimb 41 rfl)) ?_
  refine zd_ac (ok_iconst (l := l) (B := B) (y := m_Dv_guessLimb) (pc := 69) (n := (2)) (zd_dr dc_Dv_guessLimb 42 rfl) rfl) ?_
  refine zd_ac (ok_isub (l := l) (B := B) (y := m_Dv_guessLimb) (pc := 70) (zd_dr dc_Dv_guessLimb 43 rfl)) ?_
  refine zd_ac (ok_iaload (l := l) (B := B) (y := m_Dv_guessLimb) (pc := 71) hG (zd_dr dc_Dv_guessLimb 44 rfl)) ?_
  refine zd_ac (ok_i2l (l := l) (B := B) (y := m_Dv_guessLimb) (pc := 72) (zd_dr dc_Dv_guessLimb 45 rfl)) ?_
  refine zd_ac (ok_goto (l := l) (B := B) (y := m_Dv_guessLimb) (pc := 73) (zd_dr dc_Dv_guessLimb 46 rfl) (by decide)) ?_
  refine zd_ac (ok_lconst (l := l) (B := B) (y := m_Dv_guessLimb) (pc := 76) (n := 0) (zd_dr dc_Dv_guessLimb 47 rfl) rfl) ?_
  refine zd_ac (ok_lstore (l := l) (B := B) (y := m_Dv_guessLimb) (pc := 77) (zd_dr dc_Dv_guessLimb 48 rfl) (by decide)) ?_
  refine zd_ac (ok_aload_n (l := l) (B := B) (y := m_Dv_guessLimb) (pc := 79) (k := 1) rfl (zd_dr dc_Dv_guessLimb 49 rfl)) ?_
  refine zd_ac (ok_iload_n (l := l) (B := B) (y := m_Dv_guessLimb) (pc := 80) (k := 2) rfl (zd_dr dc_Dv_guessLimb 50 rfl)) ?_
  refine zd_ac (ok_iaload (l := l) (B := B) (y := m_Dv_guessLimb) (pc := 81) hG (zd_dr dc_Dv_guessLimb 51 rfl)) ?_
  refine zd_ac (ok_i2l (l := l) (B := B) (y := m_Dv_guessLimb) (pc := 82) (zd_dr dc_Dv_guessLimb 52 rfl)) ?_
  refine zd_ac (ok_ldc2 (l := l) (B := B) (y := m_Dv_guessLimb) (pc := 83) hG (List.mem_of_getElem? (i := 629) (by decide +kernel)) (zd_dr dc_Dv_guessLimb 53 rfl)) ?_
  refine zd_ac (ok_lmul (l := l) (B := B) (y := m_Dv_guessLimb) (pc := 86) (zd_dr dc_Dv_guessLimb 54 rfl)) ?_
  refine zd_ac (ok_aload_n (l := l) (B := B) (y := m_Dv_guessLimb) (pc := 87) (k := 1) rfl (zd_dr dc_Dv_guessLimb 55 rfl)) ?_
  refine zd_ac (ok_iload_n (l := l) (B := B) (y := m_Dv_guessLimb) (pc := 88) (k := 2) rfl (zd_dr dc_Dv_guessLimb 56 rfl)) ?_
  refine zd_ac (ok_iconst (l := l) (B := B) (y := m_Dv_guessLimb) (pc := 89) (n := (1)) (zd_dr dc_Dv_guessLimb 57 rfl) rfl) ?_
  refine zd_ac (ok_isub (l := l) (B := B) (y := m_Dv_guessLimb) (pc := 90) (zd_dr dc_Dv_guessLimb 58 rfl)) ?_
  refine zd_ac (ok_iaload (l := l) (B := B) (y := m_Dv_guessLimb) (pc := 91) hG (zd_dr dc_Dv_guessLimb 59 rfl)) ?_
  refine zd_ac (ok_i2l (l := l) (B := B) (y := m_Dv_guessLimb) (pc := 92) (zd_dr dc_Dv_guessLimb 60 rfl)) ?_
  refine zd_ac (ok_ladd (l := l) (B := B) (y := m_Dv_guessLimb) (pc := 93) (zd_dr dc_Dv_guessLimb 61 rfl)) ?_
  refine zd_ac (ok_lstore (l := l) (B := B) (y := m_Dv_guessLimb) (pc := 94) (zd_dr dc_Dv_guessLimb 62 rfl) (by decide)) ?_
  refine zd_ac (ok_lload (l := l) (B := B) (y := m_Dv_guessLimb) (pc := 96) (zd_dr dc_Dv_guessLimb 63 rfl)) ?_
  refine zd_ac (ok_lload (l := l) (B := B) (y := m_Dv_guessLimb) (pc := 98) (zd_dr dc_Dv_guessLimb 64 rfl)) ?_
  refine zd_ac (ok_ldiv (l := l) (B := B) (y := m_Dv_guessLimb) (pc := 100) (zd_dr dc_Dv_guessLimb 65 rfl)) ?_
  refine zd_ac (ok_lstore (l := l) (B := B) (y := m_Dv_guessLimb) (pc := 101) (zd_dr dc_Dv_guessLimb 66 rfl) (by decide)) ?_
  refine zd_ac (ok_lload (l := l) (B := B) (y := m_Dv_guessLimb) (pc := 103) (zd_dr dc_Dv_guessLimb 67 rfl)) ?_
  refine zd_ac (ok_lload (l := l) (B := B) (y := m_Dv_guessLimb) (pc := 105) (zd_dr dc_Dv_guessLimb 68 rfl)) ?_
  refine zd_ac (ok_lload (l := l) (B := B) (y := m_Dv_guessLimb) (pc := 107) (zd_dr dc_Dv_guessLimb 69 rfl)) ?_
  refine zd_ac (ok_lmul (l := l) (B := B) (y := m_Dv_guessLimb) (pc := 109) (zd_dr dc_Dv_guessLimb 70 rfl)) ?_
  refine zd_ac (ok_lsub (l := l) (B := B) (y := m_Dv_guessLimb) (pc := 110) (zd_dr dc_Dv_guessLimb 71 rfl)) ?_
  refine zd_ac (ok_lstore (l := l) (B := B) (y := m_Dv_guessLimb) (pc := 111) (zd_dr dc_Dv_guessLimb 72 rfl) (by decide)) ?_
  refine zd_ac (ok_iconst (l := l) (B := B) (y := m_Dv_guessLimb) (pc := 113) (n := (0)) (zd_dr dc_Dv_guessLimb 73 rfl) rfl) ?_
  refine zd_ac (ok_istore (l := l) (B := B) (y := m_Dv_guessLimb) (pc := 114) (zd_dr dc_Dv_guessLimb 74 rfl) (by decide)) ?_
  refine zd_ac (ok_iload (l := l) (B := B) (y := m_Dv_guessLimb) (pc := 116) (zd_dr dc_Dv_guessLimb 75 rfl)) ?_
  refine zd_ac (ok_iconst (l := l) (B := B) (y := m_Dv_guessLimb) (pc := 118) (n := (2)) (zd_dr dc_Dv_guessLimb 76 rfl) rfl) ?_
  refine zd_ac (ok_icmp_ge (l := l) (B := B) (y := m_Dv_guessLimb) (pc := 119) (zd_dr dc_Dv_guessLimb 77 rfl) (by decide)) ?_
  refine zd_ac (ok_lload (l := l) (B := B) (y := m_Dv_guessLimb) (pc := 122) (zd_dr dc_Dv_guessLimb 78 rfl)) ?_
  refine zd_ac (ok_ldc2 (l := l) (B := B) (y := m_Dv_guessLimb) (pc := 124) hG (List.mem_of_getElem? (i := 629) (by decide +kernel)) (zd_dr dc_Dv_guessLimb 79 rfl)) ?_
  refine zd_ac (ok_lcmp (l := l) (B := B) (y := m_Dv_guessLimb) (pc := 127) (zd_dr dc_Dv_guessLimb 80 rfl)) ?_
  refine zd_ac (ok_if_ge (l := l) (B := B) (y := m_Dv_guessLimb) (pc := 128) (zd_dr dc_Dv_guessLimb 81 rfl) (by decide)) ?_
  refine zd_ac (ok_lload (l := l) (B := B) (y := m_Dv_guessLimb) (pc := 131) (zd_dr dc_Dv_guessLimb 82 rfl)) ?_
  refine zd_ac (ok_ldc2 (l := l) (B := B) (y := m_Dv_guessLimb) (pc := 133) hG (List.mem_of_getElem? (i := 629) (by decide +kernel)) (zd_dr dc_Dv_guessLimb 83 rfl)) ?_
  refine zd_ac (ok_lcmp (l := l) (B := B) (y := m_Dv_guessLimb) (pc := 136) (zd_dr dc_Dv_guessLimb 84 rfl)) ?_
  refine zd_ac (ok_if_ge (l := l) (B := B) (y := m_Dv_guessLimb) (pc := 137) (zd_dr dc_Dv_guessLimb 85 rfl) (by decide)) ?_
  refine zd_ac (ok_lload (l := l) (B := B) (y := m_Dv_guessLimb) (pc := 140) (zd_dr dc_Dv_guessLimb 86 rfl)) ?_
  refine zd_ac (ok_lload (l := l) (B := B) (y := m_Dv_guessLimb) (pc := 142) (zd_dr dc_Dv_guessLimb 87 rfl)) ?_
  refine zd_ac (ok_lmul (l := l) (B := B) (y := m_Dv_guessLimb) (pc := 144) (zd_dr dc_Dv_guessLimb 88 rfl)) ?_
  refine zd_ac (ok_lload (l := l) (B := B) (y := m_Dv_guessLimb) (pc := 145) (zd_dr dc_Dv_guessLimb 89 rfl)) ?_
  refine zd_ac (ok_ldc2 (l := l) (B := B) (y := m_Dv_guessLimb) (pc := 147) hG (List.mem_of_getElem? (i := 629) (by decide +kernel)) (zd_dr dc_Dv_guessLimb 90 rfl)) ?_
  refine zd_ac (ok_lmul (l := l) (B := B) (y := m_Dv_guessLimb) (pc := 150) (zd_dr dc_Dv_guessLimb 91 rfl)) ?_
  refine zd_ac (ok_lload (l := l) (B := B) (y := m_Dv_guessLimb) (pc := 151) (zd_dr dc_Dv_guessLimb 92 rfl)) ?_
  refine zd_ac (ok_ladd (l := l) (B := B) (y := m_Dv_guessLimb) (pc := 153) (zd_dr dc_Dv_guessLimb 93 rfl)) ?_
  refine zd_ac (ok_lcmp (l := l) (B := B) (y := m_Dv_guessLimb) (pc := 154) (zd_dr dc_Dv_guessLimb 94 rfl)) ?_
  refine zd_ac (ok_if_gt (l := l) (B := B) (y := m_Dv_guessLimb) (pc := 155) (zd_dr dc_Dv_guessLimb 95 rfl) (by decide)) ?_
  refine zd_ac (ok_goto (l := l) (B := B) (y := m_Dv_guessLimb) (pc := 158) (zd_dr dc_Dv_guessLimb 96 rfl) (by decide)) ?_
  refine zd_ac (ok_lload (l := l) (B := B) (y := m_Dv_guessLimb) (pc := 161) (zd_dr dc_Dv_guessLimb 97 rfl)) ?_
  refine zd_ac (ok_lconst (l := l) (B := B) (y := m_Dv_guessLimb) (pc := 163) (n := 1) (zd_dr dc_Dv_guessLimb 98 rfl) rfl) ?_
  refine zd_ac (ok_lsub (l := l) (B := B) (y := m_Dv_guessLimb) (pc := 164) (zd_dr dc_Dv_guessLimb 99 rfl)) ?_
  refine zd_ac (ok_lstore (l := l) (B := B) (y := m_Dv_guessLimb) (pc := 165) (zd_dr dc_Dv_guessLimb 100 rfl) (by decide)) ?_
  refine zd_ac (ok_lload (l := l) (B := B) (y := m_Dv_guessLimb) (pc := 167) (zd_dr dc_Dv_guessLimb 101 rfl)) ?_
  refine zd_ac (ok_lload (l := l) (B := B) (y := m_Dv_guessLimb) (pc := 169) (zd_dr dc_Dv_guessLimb 102 rfl)) ?_
  refine zd_ac (ok_ladd (l := l) (B := B) (y := m_Dv_guessLimb) (pc := 171) (zd_dr dc_Dv_guessLimb 103 rfl)) ?_
  refine zd_ac (ok_lstore (l := l) (B := B) (y := m_Dv_guessLimb) (pc := 172) (zd_dr dc_Dv_guessLimb 104 rfl) (by decide)) ?_
  refine zd_ac (ok_iinc (l := l) (B := B) (y := m_Dv_guessLimb) (pc := 174) (zd_dr dc_Dv_guessLimb 105 rfl) (by decide) rfl) ?_
  refine zd_ac (ok_goto (l := l) (B := B) (y := m_Dv_guessLimb) (pc := 177) (zd_dr dc_Dv_guessLimb 106 rfl) (by decide)) ?_
  refine zd_ac (ok_lload (l := l) (B := B) (y := m_Dv_guessLimb) (pc := 180) (zd_dr dc_Dv_guessLimb 107 rfl)) ?_
  refine zd_ac (ok_lret (l := l) (B := B) (y := m_Dv_guessLimb) (pc := 182) rfl (zd_dr dc_Dv_guessLimb 108 rfl)) ?_
  exact zd_an
def dl_Dv_subtractTimes : List (Nat × Instr × Nat) := [(0, .aload_n 0, 1), (1, .getfield 14, 3), (4, .getfield 35, 3), (7, .astore 5, 2), (9, .aload_n 0, 1), (10, .getfield 14, 3), (13, .getfield 20, 3), (16, .istore 6, 2), (18, .lconst 0, 1), (19, .lstore 7, 2), (21, .iconst (0), 1), (22, .istore 9, 2), (24, .iload 9, 2), (26, .iload 6, 2), (28, .if_icmp .ge (75), 3), (31, .lload_n 3, 1), (32, .aload 5, 2), (34, .iload 9, 2), (36, .iaload, 1), (37, .i2l, 1), (38, .lmul, 1), (39, .lload 7, 2), (41, .ladd, 1), (42, .lstore 10, 2), (44, .lload 10, 2), (46, .ldc2_w 68, 3), (49, .ldiv, 1), (50, .lstore 7, 2), (52, .aload_n 1, 1), (53, .iload_n 2, 1), (54, .iload 9, 2), (56, .iadd, 1), (57, .iaload, 1), (58, .lload 10, 2), (60, .lload 7, 2), (62, .ldc2_w 68, 3), (65, .lmul, 1), (66, .lsub, 1), (67, .l2i, 1), (68, .isub, 1), (69, .istore 12, 2), (71, .iload 12, 2), (73, .ifCond .ge (16), 3), (76, .iload 12, 2), (78, .ldc 34, 2), (80, .iadd, 1), (81, .istore 12, 2), (83, .lload 7, 2), (85, .lconst 1, 1), (86, .ladd, 1), (87, .lstore 7, 2), (89, .aload_n 1, 1), (90, .iload_n 2, 1), (91, .iload 9, 2), (93, .iadd, 1), (94, .iload 12, 2), (96, .iastore, 1), (97, .iinc 9 (1), 3), (100, .goto (-76), 3), (103, .aload_n 1, 1), (104, .iload_n 2, 1), (105, .iload 6, 2), (107, .iadd, 1), (108, .iaload, 1), (109, .i2l, 1), (110, .lload 7, 2), (112, .lcmp, 1), (113, .ifCond .ge (7), 3), (116, .iconst (1), 1), (117, .goto (4), 3), (120, .iconst (0), 1), (121, .istore 9, 2), (123, .aload_n 1, 1), (124, .iload_n 2, 1), (125, .iload 6, 2), (127, .iadd, 1), (128, .iconst (0), 1), (129, .iastore, 1), (130, .iload 9, 2), (132, .ireturn, 1)]
theorem dc_Dv_subtractTimes : ∀ q ∈ dl_Dv_subtractTimes, decode (zd_yb m_Dv_subtractTimes) q.1 = .ok q.2 := by decide +kernel
def cd_Dv_subtractTimes (l : Launch) (B : zd_B) : List (Nat × zd_S) := [(0, oc_aload 0 1), (1, oc_getf B 2 0 4), (4, oc_getf B 4 0 7), (7, oc_astore 5 9), (9, oc_aload 0 10), (10, oc_getf B 2 0 13), (13, oc_getf B 4 1 16), (16, oc_istore 6 18), (18, oc_cl 0 19), (19, oc_lstore 7 21), (21, oc_ci (0) 22), (22, oc_istore 9 24), (24, oc_iload 9 26), (26, oc_iload 6 28), (28, oc_icmp_ge 103 31), (31, oc_lload 3 32), (32, oc_aload 5 34), (34, oc_iload 9 36), (36, oc_iaload B 37), (37, oc_i2l 38), (38, oc_lmul 39), (39, oc_lload 7 41), (41, oc_ladd 42), (42, oc_lstore 10 44), (44, oc_lload 10 46), (46, oc_cl (1000000000) 49), (49, oc_ldiv 50), (50, oc_lstore 7 52), (52, oc_aload 1 53), (53, oc_iload 2 54), (54, oc_iload 9 56), (56, oc_iadd 57), (57, oc_iaload B 58), (58, oc_lload 10 60), (60, oc_lload 7 62), (62, oc_cl (1000000000) 65), (65, oc_lmul 66), (66, oc_lsub 67), (67, oc_l2i 68), (68, oc_isub 69), (69, oc_istore 12 71), (71, oc_iload 12 73), (73, oc_if_ge 89 76), (76, oc_iload 12 78), (78, oc_ci (1000000000) 80), (80, oc_iadd 81), (81, oc_istore 12 83), (83, oc_lload 7 85), (85, oc_cl 1 86), (86, oc_ladd 87), (87, oc_lstore 7 89), (89, oc_aload 1 90), (90, oc_iload 2 91), (91, oc_iload 9 93), (93, oc_iadd 94), (94, oc_iload 12 96), (96, oc_iastore B 97), (97, oc_iinc 9 (1) 100), (100, oc_goto 24), (103, oc_aload 1 104), (104, oc_iload 2 105), (105, oc_iload 6 107), (107, oc_iadd 108), (108, oc_iaload B 109), (109, oc_i2l 110), (110, oc_lload 7 112), (112, oc_lcmp 113), (113, oc_if_ge 120 116), (116, oc_ci (1) 117), (117, oc_goto 121), (120, oc_ci (0) 121), (121, oc_istore 9 123), (123, oc_aload 1 124), (124, oc_iload 2 125), (125, oc_iload 6 127), (127, oc_iadd 128), (128, oc_ci (0) 129), (129, oc_iastore B 130), (130, oc_iload 9 132), (132, oc_iret .boolean)]
set_option maxRecDepth 20000 in
theorem ok_Dv_subtractTimes {l : Launch} {B : zd_B} (hG : zd_G B) (hl : l.stackTraces = false) : ∀ q ∈ cd_Dv_subtractTimes l B, zd_ok l B m_Dv_subtractTimes q.1 q.2 := by
  unfold cd_Dv_subtractTimes
  refine zd_ac (ok_aload_n (l := l) (B := B) (y := m_Dv_subtractTimes) (pc := 0) (k := 0) rfl (zd_dr dc_Dv_subtractTimes 0 rfl)) ?_
  refine zd_ac (ok_getf (l := l) (B := B) (y := m_Dv_subtractTimes) (pc := 1) hG (C := zR2) (T := zT2) (N := 1) (ci := 2) (k := 0) rfl zl2 (by decide) (List.mem_of_getElem? (i := 179) (by decide +kernel)) (zd_dr dc_Dv_subtractTimes 1 rfl)) ?_
  refine zd_ac (ok_getf (l := l) (B := B) (y := m_Dv_subtractTimes) (pc := 4) hG (C := zR4) (T := zT4) (N := 2) (ci := 4) (k := 0) rfl zl4 (by decide) (List.mem_of_getElem? (i := 97) (by decide +kernel)) (zd_dr dc_Dv_subtractTimes 2 rfl)) ?_
  refine zd_ac (ok_astore (l := l) (B := B) (y := m_Dv_subtractTimes) (pc := 7) (zd_dr dc_Dv_subtractTimes 3 rfl) (by decide)) ?_
  refine zd_ac (ok_aload_n (l := l) (B := B) (y := m_Dv_subtractTimes) (pc := 9) (k := 0) rfl (zd_dr dc_Dv_subtractTimes 4 rfl)) ?_
  refine zd_ac (ok_getf (l := l) (B := B) (y := m_Dv_subtractTimes) (pc := 10) hG (C := zR2) (T := zT2) (N := 1) (ci := 2) (k := 0) rfl zl2 (by decide) (List.mem_of_getElem? (i := 179) (by decide +kernel)) (zd_dr dc_Dv_subtractTimes 5 rfl)) ?_
  refine zd_ac (ok_getf (l := l) (B := B) (y := m_Dv_subtractTimes) (pc := 13) hG (C := zR4) (T := zT4) (N := 2) (ci := 4) (k := 1) rfl zl4 (by decide) (List.mem_of_getElem? (i := 99) (by decide +kernel)) (zd_dr dc_Dv_subtractTimes 6 rfl)) ?_
  refine zd_ac (ok_istore (l := l) (B := B) (y := m_Dv_subtractTimes) (pc := 16) (zd_dr dc_Dv_subtractTimes 7 rfl) (by decide)) ?_
  refine zd_ac (ok_lconst (l := l) (B := B) (y := m_Dv_subtractTimes) (pc := 18) (n := 0) (zd_dr dc_Dv_subtractTimes 8 rfl) rfl) ?_
  refine zd_ac (ok_lstore (l := l) (B := B) (y := m_Dv_subtractTimes) (pc := 19) (zd_dr dc_Dv_subtractTimes 9 rfl) (by decide)) ?_
  refine zd_ac (ok_iconst (l := l) (B := B) (y := m_Dv_subtractTimes) (pc := 21) (n := (0)) (zd_dr dc_Dv_subtractTimes 10 rfl) rfl) ?_
  refine zd_ac (ok_istore (l := l) (B := B) (y := m_Dv_subtractTimes) (pc := 22) (zd_dr dc_Dv_subtractTimes 11 rfl) (by decide)) ?_
  refine zd_ac (ok_iload (l := l) (B := B) (y := m_Dv_subtractTimes) (pc := 24) (zd_dr dc_Dv_subtractTimes 12 rfl)) ?_
  refine zd_ac (ok_iload (l := l) (B := B) (y := m_Dv_subtractTimes) (pc := 26) (zd_dr dc_Dv_subtractTimes 13 rfl)) ?_
  refine zd_ac (ok_icmp_ge (l := l) (B := B) (y := m_Dv_subtractTimes) (pc := 28) (zd_dr dc_Dv_subtractTimes 14 rfl) (by decide)) ?_
  refine zd_ac (ok_lload_n (l := l) (B := B) (y := m_Dv_subtractTimes) (pc := 31) (k := 3) rfl (zd_dr dc_Dv_subtractTimes 15 rfl)) ?_
  refine zd_ac (ok_aload (l := l) (B := B) (y := m_Dv_subtractTimes) (pc := 32) (zd_dr dc_Dv_subtractTimes 16 rfl)) ?_
  refine zd_ac (ok_iload (l := l) (B := B) (y := m_Dv_subtractTimes) (pc := 34) (zd_dr dc_Dv_subtractTimes 17 rfl)) ?_
  refine zd_ac (ok_iaload (l := l) (B := B) (y := m_Dv_subtractTimes) (pc := 36) hG (zd_dr dc_Dv_subtractTimes 18 rfl)) ?_
  refine zd_ac (ok_i2l (l := l) (B := B) (y := m_Dv_subtractTimes) (pc := 37) (zd_dr dc_Dv_subtractTimes 19 rfl)) ?_
  refine zd_ac (ok_lmul (l := l) (B := B) (y := m_Dv_subtractTimes) (pc := 38) (zd_dr dc_Dv_subtractTimes 20 rfl)) ?_
  refine zd_ac (ok_lload (l := l) (B := B) (y := m_Dv_subtractTimes) (pc := 39) (zd_dr dc_Dv_subtractTimes 21 rfl)) ?_
  refine zd_ac (ok_ladd (l := l) (B := B) (y := m_Dv_subtractTimes) (pc := 41) (zd_dr dc_Dv_subtractTimes 22 rfl)) ?_
  refine zd_ac (ok_lstore (l := l) (B := B) (y := m_Dv_subtractTimes) (pc := 42) (zd_dr dc_Dv_subtractTimes 23 rfl) (by decide)) ?_
  refine zd_ac (ok_lload (l := l) (B := B) (y := m_Dv_subtractTimes) (pc := 44) (zd_dr dc_Dv_subtractTimes 24 rfl)) ?_
  refine zd_ac (ok_ldc2 (l := l) (B := B) (y := m_Dv_subtractTimes) (pc := 46) hG (List.mem_of_getElem? (i := 629) (by decide +kernel)) (zd_dr dc_Dv_subtractTimes 25 rfl)) ?_
  refine zd_ac (ok_ldiv (l := l) (B := B) (y := m_Dv_subtractTimes) (pc := 49) (zd_dr dc_Dv_subtractTimes 26 rfl)) ?_
  refine zd_ac (ok_lstore (l := l) (B := B) (y := m_Dv_subtractTimes) (pc := 50) (zd_dr dc_Dv_subtractTimes 27 rfl) (by decide)) ?_
  refine zd_ac (ok_aload_n (l := l) (B := B) (y := m_Dv_subtractTimes) (pc := 52) (k := 1) rfl (zd_dr dc_Dv_subtractTimes 28 rfl)) ?_
  refine zd_ac (ok_iload_n (l := l) (B := B) (y := m_Dv_subtractTimes) (pc := 53) (k := 2) rfl (zd_dr dc_Dv_subtractTimes 29 rfl)) ?_
  refine zd_ac (ok_iload (l := l) (B := B) (y := m_Dv_subtractTimes) (pc := 54) (zd_dr dc_Dv_subtractTimes 30 rfl)) ?_
  refine zd_ac (ok_iadd (l := l) (B := B) (y := m_Dv_subtractTimes) (pc := 56) (zd_dr dc_Dv_subtractTimes 31 rfl)) ?_
  refine zd_ac (ok_iaload (l := l) (B := B) (y := m_Dv_subtractTimes) (pc := 57) hG (zd_dr dc_Dv_subtractTimes 32 rfl)) ?_
  refine zd_ac (ok_lload (l := l) (B := B) (y := m_Dv_subtractTimes) (pc := 58) (zd_dr dc_Dv_subtractTimes 33 rfl)) ?_
  refine zd_ac (ok_lload (l := l) (B := B) (y := m_Dv_subtractTimes) (pc := 60) (zd_dr dc_Dv_subtractTimes 34 rfl)) ?_
  refine zd_ac (ok_ldc2 (l := l) (B := B) (y := m_Dv_subtractTimes) (pc := 62) hG (List.mem_of_getElem? (i := 629) (by decide +kernel)) (zd_dr dc_Dv_subtractTimes 35 rfl)) ?_
  refine zd_ac (ok_lmul (l := l) (B := B) (y := m_Dv_subtractTimes) (pc := 65) (zd_dr dc_Dv_subtractTimes 36 rfl)) ?_
  refine zd_ac (ok_lsub (l := l) (B := B) (y := m_Dv_subtractTimes) (pc := 66) (zd_dr dc_Dv_subtractTimes 37 rfl)) ?_
  refine zd_ac (ok_l2i (l := l) (B := B) (y := m_Dv_subtractTimes) (pc := 67) (zd_dr dc_Dv_subtractTimes 38 rfl)) ?_
  refine zd_ac (ok_isub (l := l) (B := B) (y := m_Dv_subtractTimes) (pc := 68) (zd_dr dc_Dv_subtractTimes 39 rfl)) ?_
  refine zd_ac (ok_istore (l := l) (B := B) (y := m_Dv_subtractTimes) (pc := 69) (zd_dr dc_Dv_subtractTimes 40 rfl) (by decide)) ?_
  refine zd_ac (ok_iload (l := l) (B := B) (y := m_Dv_subtractTimes) (pc := 71) (zd_dr dc_Dv_subtractTimes 41 rfl)) ?_
  refine zd_ac (ok_if_ge (l := l) (B := B) (y := m_Dv_subtractTimes) (pc := 73) (zd_dr dc_Dv_subtractTimes 42 rfl) (by decide)) ?_
  refine zd_ac (ok_iload (l := l) (B := B) (y := m_Dv_subtractTimes) (pc := 76) (zd_dr dc_Dv_subtractTimes 43 rfl)) ?_
  refine zd_ac (ok_ldc (l := l) (B := B) (y := m_Dv_subtractTimes) (pc := 78) hG (List.mem_of_getElem? (i := 615) (by decide +kernel)) (zd_dr dc_Dv_subtractTimes 44 rfl)) ?_
  refine zd_ac (ok_iadd (l := l) (B := B) (y := m_Dv_subtractTimes) (pc := 80) (zd_dr dc_Dv_subtractTimes 45 rfl)) ?_
  refine zd_ac (ok_istore (l := l) (B := B) (y := m_Dv_subtractTimes) (pc := 81) (zd_dr dc_Dv_subtractTimes 46 rfl) (by decide)) ?_
  refine zd_ac (ok_lload (l := l) (B := B) (y := m_Dv_subtractTimes) (pc := 83) (zd_dr dc_Dv_subtractTimes 47 rfl)) ?_
  refine zd_ac (ok_lconst (l := l) (B := B) (y := m_Dv_subtractTimes) (pc := 85) (n := 1) (zd_dr dc_Dv_subtractTimes 48 rfl) rfl) ?_
  refine zd_ac (ok_ladd (l := l) (B := B) (y := m_Dv_subtractTimes) (pc := 86) (zd_dr dc_Dv_subtractTimes 49 rfl)) ?_
  refine zd_ac (ok_lstore (l := l) (B := B) (y := m_Dv_subtractTimes) (pc := 87) (zd_dr dc_Dv_subtractTimes 50 rfl) (by decide)) ?_
  refine zd_ac (ok_aload_n (l := l) (B := B) (y := m_Dv_subtractTimes) (pc := 89) (k := 1) rfl (zd_dr dc_Dv_subtractTimes 51 rfl)) ?_
  refine zd_ac (ok_iload_n (l := l) (B := B) (y := m_Dv_subtractTimes) (pc := 90) (k := 2) rfl (zd_dr dc_Dv_subtractTimes 52 rfl)) ?_
  refine zd_ac (ok_iload (l := l) (B := B) (y := m_Dv_subtractTimes) (pc := 91) (zd_dr dc_Dv_subtractTimes 53 rfl)) ?_
  refine zd_ac (ok_iadd (l := l) (B := B) (y := m_Dv_subtractTimes) (pc := 93) (zd_dr dc_Dv_subtractTimes 54 rfl)) ?_
  refine zd_ac (ok_iload (l := l) (B := B) (y := m_Dv_subtractTimes) (pc := 94) (zd_dr dc_Dv_subtractTimes 55 rfl)) ?_
  refine zd_ac (ok_iastore (l := l) (B := B) (y := m_Dv_subtractTimes) (pc := 96) hG (zd_dr dc_Dv_subtractTimes 56 rfl)) ?_
  refine zd_ac (ok_iinc (l := l) (B := B) (y := m_Dv_subtractTimes) (pc := 97) (zd_dr dc_Dv_subtractTimes 57 rfl) (by decide) rfl) ?_
  refine zd_ac (ok_goto (l := l) (B := B) (y := m_Dv_subtractTimes) (pc := 100) (zd_dr dc_Dv_subtractTimes 58 rfl) (by decide)) ?_
  refine zd_ac (ok_aload_n (l := l) (B := B) (y := m_Dv_subtractTimes) (pc := 103) (k := 1) rfl (zd_dr dc_Dv_subtractTimes 59 rfl)) ?_
  refine zd_ac (ok_iload_n (l := l) (B := B) (y := m_Dv_subtractTimes) (pc := 104) (k := 2) rfl (zd_dr dc_Dv_subtractTimes 60 rfl)) ?_
  refine zd_ac (ok_iload (l := l) (B := B) (y := m_Dv_subtractTimes) (pc := 105) (zd_dr dc_Dv_subtractTimes 61 rfl)) ?_
  refine zd_ac (ok_iadd (l := l) (B := B) (y := m_Dv_subtractTimes) (pc := 107) (zd_dr dc_Dv_subtractTimes 62 rfl)) ?_
  refine zd_ac (ok_iaload (l := l) (B := B) (y := m_Dv_subtractTimes) (pc := 108) hG (zd_dr dc_Dv_subtractTimes 63 rfl)) ?_
  refine zd_ac (ok_i2l (l := l) (B := B) (y := m_Dv_subtractTimes) (pc := 109) (zd_dr dc_Dv_subtractTimes 64 rfl)) ?_
  refine zd_ac (ok_lload (l := l) (B := B) (y := m_Dv_subtractTimes) (pc := 110) (zd_dr dc_Dv_subtractTimes 65 rfl)) ?_
  refine zd_ac (ok_lcmp (l := l) (B := B) (y := m_Dv_subtractTimes) (pc := 112) (zd_dr dc_Dv_subtractTimes 66 rfl)) ?_
  refine zd_ac (ok_if_ge (l := l) (B := B) (y := m_Dv_subtractTimes) (pc := 113) (zd_dr dc_Dv_subtractTimes 67 rfl) (by decide)) ?_
  refine zd_ac (ok_iconst (l := l) (B := B) (y := m_Dv_subtractTimes) (pc := 116) (n := (1)) (zd_dr dc_Dv_subtractTimes 68 rfl) rfl) ?_
  refine zd_ac (ok_goto (l := l) (B := B) (y := m_Dv_subtractTimes) (pc := 117) (zd_dr dc_Dv_subtractTimes 69 rfl) (by decide)) ?_
  refine zd_ac (ok_iconst (l := l) (B := B) (y := m_Dv_subtractTimes) (pc := 120) (n := (0)) (zd_dr dc_Dv_subtractTimes 70 rfl) rfl) ?_
  refine zd_ac (ok_istore (l := l) (B := B) (y := m_Dv_subtractTimes) (pc := 121) (zd_dr dc_Dv_subtractTimes 71 rfl) (by decide)) ?_
  refine zd_ac (ok_aload_n (l := l) (B := B) (y := m_Dv_subtractTimes) (pc := 123) (k := 1) rfl (zd_dr dc_Dv_subtractTimes 72 rfl)) ?_
  refine zd_ac (ok_iload_n (l := l) (B := B) (y := m_Dv_subtractTimes) (pc := 124) (k := 2) rfl (zd_dr dc_Dv_subtractTimes 73 rfl)) ?_
  refine zd_ac (ok_iload (l := l) (B := B) (y := m_Dv_subtractTimes) (pc := 125) (zd_dr dc_Dv_subtractTimes 74 rfl)) ?_
  refine zd_ac (ok_iadd (l := l) (B := B) (y := m_Dv_subtractTimes) (pc := 127) (zd_dr dc_Dv_subtractTimes 75 rfl)) ?_
  refine zd_ac (ok_iconst (l := l) (B := B) (y := m_Dv_subtractTimes) (pc := 128) (n := (0)) (zd_dr dc_Dv_subtractTimes 76 rfl) rfl) ?_
  refine zd_ac (ok_iastore (l := l) (B := B) (y := m_Dv_subtractTimes) (pc := 129) hG (zd_dr dc_Dv_subtractTimes 77 rfl)) ?_
  refine zd_ac (ok_iload (l := l) (B := B) (y := m_Dv_subtractTimes) (pc := 130) (zd_dr dc_Dv_subtractTimes 78 rfl)) ?_
  refine zd_ac (ok_iret (l := l) (B := B) (y := m_Dv_subtractTimes) (pc := 132) rfl (zd_dr dc_Dv_subtractTimes 79 rfl)) ?_
  exact zd_an
def dl_Dv_giveBack : List (Nat × Instr × Nat) := [(0, .iconst (0), 1), (1, .istore_n 3, 1), (2, .iconst (0), 1), (3, .istore 4, 2), (5, .iload 4, 2), (7, .aload_n 0, 1), (8, .getfield 14, 3), (11, .getfield 20, 3), (14, .if_icmp .ge (65), 3), (17, .aload_n 1, 1), (18, .iload_n 2, 1), (19, .iload 4, 2), (21, .iadd, 1), (22, .iaload, 1), (23, .ldc 34, 2), (25, .isub, 1), (26, .aload_n 0, 1), (27, .getfield 14, 3), (30, .getfield 35, 3), (33, .iload 4, 2), (35, .iaload, 1), (36, .iadd, 1), (37, .iload_n 3, 1), (38, .iadd, 1), (39, .istore 5, 2), (41, .iload 5, 2), (43, .ifCond .lt (7), 3), (46, .iconst (1), 1), (47, .goto (4), 3), (50, .iconst (0), 1), (51, .istore_n 3, 1), (52, .aload_n 1, 1), (53, .iload_n 2, 1), (54, .iload 4, 2), (56, .iadd, 1), (57, .iload 5, 2), (59, .ifCond .lt (8), 3), (62, .iload 5, 2), (64, .goto (8), 3), (67, .iload 5, 2), (69, .ldc 34, 2), (71, .iadd, 1), (72, .iastore, 1), (73, .iinc 4 (1), 3), (76, .goto (-71), 3), (79, .return_, 1)]
theorem dc_Dv_giveBack : ∀ q ∈ dl_Dv_giveBack, decode (zd_yb m_Dv_giveBack) q.1 = .ok q.2 := by decide +kernel
def cd_Dv_giveBack (l : Launch) (B : zd_B) : List (Nat × zd_S) := [(0, oc_ci (0) 1), (1, oc_istore 3 2), (2, oc_ci (0) 3), (3, oc_istore 4 5), (5, oc_iload 4 7), (7, oc_aload 0 8), (8, oc_getf B 2 0 11), (11, oc_getf B 4 1 14), (14, oc_icmp_ge 79 17), (17, oc_aload 1 18), (18, oc_iload 2 19), (19, oc_iload 4 21), (21, oc_iadd 22), (22, oc_iaload B 23), (23, oc_ci (1000000000) 25), (25, oc_isub 26), (26, oc_aload 0 27), (27, oc_getf B 2 0 30), (30, oc_getf B 4 0 33), (33, oc_iload 4 35), (35, oc_iaload B 36), (36, oc_iadd 37), (37, oc_iload 3 38), (38, oc_iadd 39), (39, oc_istore 5 41), (41, oc_iload 5 43), (43, oc_if_lt 50 46), (46, oc_ci (1) 47), (47, oc_goto 51), (50, oc_ci (0) 51), (51, oc_istore 3 52), (52, oc_aload 1 53), (53, oc_iload 2 54), (54, oc_iload 4 56), (56, oc_iadd 57), (57, oc_iload 5 59), (59, oc_if_lt 67 62), (62, oc_iload 5 64), (64, oc_goto 72), (67, oc_iload 5 69), (69, oc_ci (1000000000) 71), (71, oc_iadd 72), (72, oc_iastore B 73), (73, oc_iinc 4 (1) 76), (76, oc_goto 5), (79, oc_vret)]
set_option maxRecDepth 20000 in
theorem ok_Dv_giveBack {l : Launch} {B : zd_B} (hG : zd_G B) (hl : l.stackTraces = false) : ∀ q ∈ cd_Dv_giveBack l B, zd_ok l B m_Dv_giveBack q.1 q.2 := by
  unfold cd_Dv_giveBack
  refine zd_ac (ok_iconst (l := l) (B := B) (y := m_Dv_giveBack) (pc := 0) (n := (0)) (zd_dr dc_Dv_giveBack 0 rfl) rfl) ?_
  refine zd_ac (ok_istore_n (l := l) (B := B) (y := m_Dv_giveBack) (pc := 1) (k := 3) rfl (zd_dr dc_Dv_giveBack 1 rfl) (by decide)) ?_
  refine zd_ac (ok_iconst (l := l) (B := B) (y := m_Dv_giveBack) (pc := 2) (n := (0)) (zd_dr dc_Dv_giveBack 2 rfl) rfl) ?_
  refine zd_ac (ok_istore (l := l) (B := B) (y := m_Dv_giveBack) (pc := 3) (zd_dr dc_Dv_giveBack 3 rfl) (by decide)) ?_
  refine zd_ac (ok_iload (l := l) (B := B) (y := m_Dv_giveBack) (pc := 5) (zd_dr dc_Dv_giveBack 4 rfl)) ?_
  refine zd_ac (ok_aload_n (l := l) (B := B) (y := m_Dv_giveBack) (pc := 7) (k := 0) rfl (zd_dr dc_Dv_giveBack 5 rfl)) ?_
  refine zd_ac (ok_getf (l := l) (B := B) (y := m_Dv_giveBack) (pc := 8) hG (C := zR2) (T := zT2) (N := 1) (ci := 2) (k := 0) rfl zl2 (by decide) (List.mem_of_getElem? (i := 179) (by decide +kernel)) (zd_dr dc_Dv_giveBack 6 rfl)) ?_
  refine zd_ac (ok_getf (l := l) (B := B) (y := m_Dv_giveBack) (pc := 11) hG (C := zR4) (T := zT4) (N := 2) (ci := 4) (k := 1) rfl zl4 (by decide) (List.mem_of_getElem? (i := 99) (by decide +kernel)) (zd_dr dc_Dv_giveBack 7 rfl)) ?_
  refine zd_ac (ok_icmp_ge (l := l) (B := B) (y := m_Dv_giveBack) (pc := 14) (zd_dr dc_Dv_giveBack 8 rfl) (by decide)) ?_
  refine zd_ac (ok_aload_n (l := l) (B := B) (y := m_Dv_giveBack) (pc := 17) (k := 1) rfl (zd_dr dc_Dv_giveBack 9 rfl)) ?_
  refine zd_ac (ok_iload_n (l := l) (B := B) (y := m_Dv_giveBack) (pc := 18) (k := 2) rfl (zd_dr dc_Dv_giveBack 10 rfl)) ?_
  refine zd_ac (ok_iload (l := l) (B := B) (y := m_Dv_giveBack) (pc := 19) (zd_dr dc_Dv_giveBack 11 rfl)) ?_
  refine zd_ac (ok_iadd (l := l) (B := B) (y := m_Dv_giveBack) (pc := 21) (zd_dr dc_Dv_giveBack 12 rfl)) ?_
  refine zd_ac (ok_iaload (l := l) (B := B) (y := m_Dv_giveBack) (pc := 22) hG (zd_dr dc_Dv_giveBack 13 rfl)) ?_
  refine zd_ac (ok_ldc (l := l) (B := B) (y := m_Dv_giveBack) (pc := 23) hG (List.mem_of_getElem? (i := 615) (by decide +kernel)) (zd_dr dc_Dv_giveBack 14 rfl)) ?_
  refine zd_ac (ok_isub (l := l) (B := B) (y := m_Dv_giveBack) (pc := 25) (zd_dr dc_Dv_giveBack 15 rfl)) ?_
  refine zd_ac (ok_aload_n (l := l) (B := B) (y := m_Dv_giveBack) (pc := 26) (k := 0) rfl (zd_dr dc_Dv_giveBack 16 rfl)) ?_
  refine zd_ac (ok_getf (l := l) (B := B) (y := m_Dv_giveBack) (pc := 27) hG (C := zR2) (T := zT2) (N := 1) (ci := 2) (k := 0) rfl zl2 (by decide) (List.mem_of_getElem? (i := 179) (by decide +kernel)) (zd_dr dc_Dv_giveBack 17 rfl)) ?_
  refine zd_ac (ok_getf (l := l) (B := B) (y := m_Dv_giveBack) (pc := 30) hG (C := zR4) (T := zT4) (N := 2) (ci := 4) (k := 0) rfl zl4 (by decide) (List.mem_of_getElem? (i := 97) (by decide +kernel)) (zd_dr dc_Dv_giveBack 18 rfl)) ?_
  refine zd_ac (ok_iload (l := l) (B := B) (y := m_Dv_giveBack) (pc := 33) (zd_dr dc_Dv_giveBack 19 rfl)) ?_
  refine zd_ac (ok_iaload (l := l) (B := B) (y := m_Dv_giveBack) (pc := 35) hG (zd_dr dc_Dv_giveBack 20 rfl)) ?_
  refine zd_ac (ok_iadd (l := l) (B := B) (y := m_Dv_giveBack) (pc := 36) (zd_dr dc_Dv_giveBack 21 rfl)) ?_
  refine zd_ac (ok_iload_n (l := l) (B := B) (y := m_Dv_giveBack) (pc := 37) (k := 3) rfl (zd_dr dc_Dv_giveBack 22 rfl)) ?_
  refine zd_ac (ok_iadd (l := l) (B := B) (y := m_Dv_giveBack) (pc := 38) (zd_dr dc_Dv_giveBack 23 rfl)) ?_
  refine zd_ac (ok_istore (l := l) (B := B) (y := m_Dv_giveBack) (pc := 39) (zd_dr dc_Dv_giveBack 24 rfl) (by decide)) ?_
  refine zd_ac (ok_iload (l := l) (B := B) (y := m_Dv_giveBack) (pc := 41) (zd_dr dc_Dv_giveBack 25 rfl)) ?_
  refine zd_ac (ok_if_lt (l := l) (B := B) (y := m_Dv_giveBack) (pc := 43) (zd_dr dc_Dv_giveBack 26 rfl) (by decide)) ?_
  refine zd_ac (ok_iconst (l := l) (B := B) (y := m_Dv_giveBack) (pc := 46) (n := (1)) (zd_dr dc_Dv_giveBack 27 rfl) rfl) ?_
  refine zd_ac (ok_goto (l := l) (B := B) (y := m_Dv_giveBack) (pc := 47) (zd_dr dc_Dv_giveBack 28 rfl) (by decide)) ?_
  refine zd_ac (ok_iconst (l := l) (B := B) (y := m_Dv_giveBack) (pc := 50) (n := (0)) (zd_dr dc_Dv_giveBack 29 rfl) rfl) ?_
  refine zd_ac (ok_istore_n (l := l) (B := B) (y := m_Dv_giveBack) (pc := 51) (k := 3) rfl (zd_dr dc_Dv_giveBack 30 rfl) (by decide)) ?_
  refine zd_ac (ok_aload_n (l := l) (B := B) (y := m_Dv_giveBack) (pc := 52) (k := 1) rfl (zd_dr dc_Dv_giveBack 31 rfl)) ?_
  refine zd_ac (ok_iload_n (l := l) (B := B) (y := m_Dv_giveBack) (pc := 53) (k := 2) rfl (zd_dr dc_Dv_giveBack 32 rfl)) ?_
  refine zd_ac (ok_iload (l := l) (B := B) (y := m_Dv_giveBack) (pc := 54) (zd_dr dc_Dv_giveBack 33 rfl)) ?_
  refine zd_ac (ok_iadd (l := l) (B := B) (y := m_Dv_giveBack) (pc := 56) (zd_dr dc_Dv_giveBack 34 rfl)) ?_
  refine zd_ac (ok_iload (l := l) (B := B) (y := m_Dv_giveBack) (pc := 57) (zd_dr dc_Dv_giveBack 35 rfl)) ?_
  refine zd_ac (ok_if_lt (l := l) (B := B) (y := m_Dv_giveBack) (pc := 59) (zd_dr dc_Dv_giveBack 36 rfl) (by decide)) ?_
  refine zd_ac (ok_iload (l := l) (B := B) (y := m_Dv_giveBack) (pc := 62) (zd_dr dc_Dv_giveBack 37 rfl)) ?_
  refine zd_ac (ok_goto (l := l) (B := B) (y := m_Dv_giveBack) (pc := 64) (zd_dr dc_Dv_giveBack 38 rfl) (by decide)) ?_
  refine zd_ac (ok_iload (l := l) (B := B) (y := m_Dv_giveBack) (pc := 67) (zd_dr dc_Dv_giveBack 39 rfl)) ?_
  refine zd_ac (ok_ldc (l := l) (B := B) (y := m_Dv_giveBack) (pc := 69) hG (List.mem_of_getElem? (i := 615) (by decide +kernel)) (zd_dr dc_Dv_giveBack 40 rfl)) ?_
  refine zd_ac (ok_iadd (l := l) (B := B) (y := m_Dv_giveBack) (pc := 71) (zd_dr dc_Dv_giveBack 41 rfl)) ?_
  refine zd_ac (ok_iastore (l := l) (B := B) (y := m_Dv_giveBack) (pc := 72) hG (zd_dr dc_Dv_giveBack 42 rfl)) ?_
  refine zd_ac (ok_iinc (l := l) (B := B) (y := m_Dv_giveBack) (pc := 73) (zd_dr dc_Dv_giveBack 43 rfl) (by decide) rfl) ?_
  refine zd_ac (ok_goto (l := l) (B := B) (y := m_Dv_giveBack) (pc := 76) (zd_dr dc_Dv_giveBack 44 rfl) (by decide)) ?_
  refine zd_ac (ok_vret (l := l) (B := B) (y := m_Dv_giveBack) (pc := 79) rfl (zd_dr dc_Dv_giveBack 45 rfl)) ?_
  exact zd_an
def dl_Ro_init : List (Nat × Instr × Nat) := [(0, .aload_n 0, 1), (1, .invokespecial 3, 3), (4, .aload_n 0, 1), (5, .new 9, 3), (8, .dup, 1), (9, .sipush (226), 3), (12, .invokespecial 11, 3), (15, .putfield 14, 3), (18, .aload_n 0, 1), (19, .new 9, 3), (22, .dup, 1), (23, .sipush (226), 3), (26, .invokespecial 11, 3), (29, .putfield 20, 3), (32, .aload_n 0, 1), (33, .new 9, 3), (36, .dup, 1), (37, .sipush (226), 3), (40, .invokespecial 11, 3), (43, .putfield 23, 3), (46, .aload_n 0, 1), (47, .aload_n 1, 1), (48, .putfield 26, 3), (51, .return_, 1)]
theorem dc_Ro_init : ∀ q ∈ dl_Ro_init, decode (zd_yb m_Ro_init) q.1 = .ok q.2 := by decide +kernel
def cd_Ro_init (l : Launch) (B : zd_B) : List (Nat × zd_S) := [(0, oc_aload 0 1), (1, oc_oinit 4), (4, oc_aload 0 5), (5, oc_new B 4 2 [.null, .int 0] 8), (8, oc_dup 9), (9, oc_ci (226) 12), (12, oc_calli l B m_Na_init 1 15), (15, oc_putf B (zy5 1) 5 1 18), (18, oc_aload 0 19), (19, oc_new B 4 2 [.null, .int 0] 22), (22, oc_dup 23), (23, oc_ci (226) 26), (26, oc_calli l B m_Na_init 1 29), (29, oc_putf B (zy5 2) 5 2 32), (32, oc_aload 0 33), (33, oc_new B 4 2 [.null, .int 0] 36), (36, oc_dup 37), (37, oc_ci (226) 40), (40, oc_calli l B m_Na_init 1 43), (43, oc_putf B (zy5 3) 5 3 46), (46, oc_aload 0 47), (47, oc_aload 1 48), (48, oc_putf B (zy5 0) 5 0 51), (51, oc_vret)]
set_option maxRecDepth 20000 in
theorem ok_Ro_init {l : Launch} {B : zd_B} (hG : zd_G B) (hl : l.stackTraces = false) : ∀ q ∈ cd_Ro_init l B, zd_ok l B m_Ro_init q.1 q.2 := by
  unfold cd_Ro_init
  refine zd_ac (ok_aload_n (l := l) (B := B) (y := m_Ro_init) (pc := 0) (k := 0) rfl (zd_dr dc_Ro_init 0 rfl)) ?_
  refine zd_ac (ok_oinit (l := l) (B := B) (y := m_Ro_init) (pc := 1) hG (List.mem_of_getElem? (i := 188) (by decide +kernel)) (List.mem_of_getElem? (i := 81) (by decide +kernel)) (List.mem_of_getElem? (i := 82) (by decide +kernel)) (by decide) (by decide) (zd_dr dc_Ro_init 1 rfl)) ?_
  refine zd_ac (ok_aload_n (l := l) (B := B) (y := m_Ro_init) (pc := 4) (k := 0) rfl (zd_dr dc_Ro_init 2 rfl)) ?_
  refine zd_ac (ok_new (l := l) (B := B) (y := m_Ro_init) (pc := 5) hG (C := zR4) (T := zT4) (ty := zy4) (N := 2) rfl zl4 zt4 (List.mem_of_getElem? (i := 189) (by decide +kernel)) (List.mem_of_getElem? (i := 91) (by decide +kernel)) (List.mem_of_getElem? (i := 58) (by decide +kernel)) (by decide) (zd_dr dc_Ro_init 3 rfl)) ?_
  refine zd_ac (ok_dup (l := l) (B := B) (y := m_Ro_init) (pc := 8) (zd_dr dc_Ro_init 4 rfl)) ?_
  refine zd_ac (ok_sipush (l := l) (B := B) (y := m_Ro_init) (pc := 9) (n := (226)) (zd_dr dc_Ro_init 5 rfl) rfl) ?_
  refine zd_ac (ok_calli (l := l) (B := B) (y := m_Ro_init) (pc := 12) hG cf_Ro_init_Na_init rfl rfl rfl rfl (List.mem_of_getElem? (i := 190) (by decide +kernel)) (List.mem_of_getElem? (i := 93) (by decide +kernel)) (zd_dr dc_Ro_init 6 rfl)) ?_
  refine zd_ac (ok_putfF (l := l) (B := B) (y := m_Ro_init) (pc := 15) hG (C := zR5) (T := zT5) (N := 4) (ci := 5) (k := 1) rfl zl5 zt5 (by decide) (List.mem_of_getElem? (i := 192) (by decide +kernel)) rfl rfl rfl (zd_dr dc_Ro_init 7 rfl)) ?_
  refine zd_ac (ok_aload_n (l := l) (B := B) (y := m_Ro_init) (pc := 18) (k := 0) rfl (zd_dr dc_Ro_init 8 rfl)) ?_
  refine zd_ac (ok_new (l := l) (B := B) (y := m_Ro_init) (pc := 19) hG (C := zR4) (T := zT4) (ty := zy4) (N := 2) rfl zl4 zt4 (List.mem_of_getElem? (i := 189) (by decide +kernel)) (List.mem_of_getElem? (i := 91) (by decide +kernel)) (List.mem_of_getElem? (i := 58) (by decide +kernel)) (by decide) (zd_dr dc_Ro_init 9 rfl)) ?_
  refine zd_ac (ok_dup (l := l) (B := B) (y := m_Ro_init) (pc := 22) (zd_dr dc_Ro_init 10 rfl)) ?_
  refine zd_ac (ok_sipush (l := l) (B := B) (y := m_Ro_init) (pc := 23) (n := (226)) (zd_dr dc_Ro_init 11 rfl) rfl) ?_
  refine zd_ac (ok_calli (l := l) (B := B) (y := m_Ro_init) (pc := 26) hG cf_Ro_init_Na_init rfl rfl rfl rfl (List.mem_of_getElem? (i := 190) (by decide +kernel)) (List.mem_of_getElem? (i := 93) (by decide +kernel)) (zd_dr dc_Ro_init 12 rfl)) ?_
  refine zd_ac (ok_putfF (l := l) (B := B) (y := m_Ro_init) (pc := 29) hG (C := zR5) (T := zT5) (N := 4) (ci := 5) (k := 2) rfl zl5 zt5 (by decide) (List.mem_of_getElem? (i := 193) (by decide +kernel)) rfl rfl rfl (zd_dr dc_Ro_init 13 rfl)) ?_
  refine zd_ac (ok_aload_n (l := l) (B := B) (y := m_Ro_init) (pc := 32) (k := 0) rfl (zd_dr dc_Ro_init 14 rfl)) ?_
  refine zd_ac (ok_new (l := l) (B := B) (y := m_Ro_init) (pc := 33) hG (C := zR4) (T := zT4) (ty := zy4) (N := 2) rfl zl4 zt4 (List.mem_of_getElem? (i := 189) (by decide +kernel)) (List.mem_of_getElem? (i := 91) (by decide +kernel)) (List.mem_of_getElem? (i := 58) (by decide +kernel)) (by decide) (zd_dr dc_Ro_init 15 rfl)) ?_
  refine zd_ac (ok_dup (l := l) (B := B) (y := m_Ro_init) (pc := 36) (zd_dr dc_Ro_init 16 rfl)) ?_
  refine zd_ac (ok_sipush (l := l) (B := B) (y := m_Ro_init) (pc := 37) (n := (226)) (zd_dr dc_Ro_init 17 rfl) rfl) ?_
  refine zd_ac (ok_calli (l := l) (B := B) (y := m_Ro_init) (pc := 40) hG cf_Ro_init_Na_init rfl rfl rfl rfl (List.mem_of_getElem? (i := 190) (by decide +kernel)) (List.mem_of_getElem? (i := 93) (by decide +kernel)) (zd_dr dc_Ro_init 18 rfl)) ?_
  refine zd_ac (ok_putfF (l := l) (B := B) (y := m_Ro_init) (pc := 43) hG (C := zR5) (T := zT5) (N := 4) (ci := 5) (k := 3) rfl zl5 zt5 (by decide) (List.mem_of_getElem? (i := 194) (by decide +kernel)) rfl rfl rfl (zd_dr dc_Ro_init 19 rfl)) ?_
  refine zd_ac (ok_aload_n (l := l) (B := B) (y := m_Ro_init) (pc := 46) (k := 0) rfl (zd_dr dc_Ro_init 20 rfl)) ?_
  refine zd_ac (ok_aload_n (l := l) (B := B) (y := m_Ro_init) (pc := 47) (k := 1) rfl (zd_dr dc_Ro_init 21 rfl)) ?_
  refine zd_ac (ok_putfF (l := l) (B := B) (y := m_Ro_init) (pc := 48) hG (C := zR5) (T := zT5) (N := 4) (ci := 5) (k := 0) rfl zl5 zt5 (by decide) (List.mem_of_getElem? (i := 191) (by decide +kernel)) rfl rfl rfl (zd_dr dc_Ro_init 22 rfl)) ?_
  refine zd_ac (ok_vret (l := l) (B := B) (y := m_Ro_init) (pc := 51) rfl (zd_dr dc_Ro_init 23 rfl)) ?_
  exact zd_an
def dl_Ro_extract : List (Nat × Instr × Nat) := [(0, .aload_n 1, 1), (1, .getfield 30, 3), (4, .iconst (1), 1), (5, .iadd, 1), (6, .iconst (2), 1), (7, .idiv, 1), (8, .istore_n 3, 1), (9, .iconst (0), 1), (10, .istore 4, 2), (12, .aload_n 2, 1), (13, .iconst (0), 1), (14, .invokevirtual 34, 3), (17, .iconst (0), 1), (18, .istore 5, 2), (20, .iconst (0), 1), (21, .istore 6, 2), (23, .iload 6, 2), (25, .sipush (226), 3), (28, .if_icmp .ge (85), 3), (31, .iload 5, 2), (33, .iload_n 3, 1), (34, .if_icmp .ge (79), 3), (37, .iload_n 3, 1), (38, .iload 5, 2), (40, .iconst (1), 1), (41, .iadd, 1), (42, .iconst (2), 1), (43, .iload 5, 2), (45, .imul, 1), (46, .iconst (1), 1), (47, .isub, 1), (48, .invokestatic 37, 3), (51, .invokestatic 43, 3), (54, .istore 7, 2), (56, .aload_n 0, 1), (57, .getfield 14, 3), (60, .aload_n 1, 1), (61, .invokevirtual 46, 3), (64, .aload_n 0, 1), (65, .getfield 14, 3), (68, .bipush (-18), 2), (70, .iload_n 3, 1), (71, .iload 7, 2), (73, .isub, 1), (74, .imul, 1), (75, .invokevirtual 50, 3), (78, .pop, 1), (79, .aload_n 2, 1), (80, .invokevirtual 54, 3), (83, .aload_n 2, 1), (84, .bipush (9), 2), (86, .iload 7, 2), (88, .iload 5, 2), (90, .isub, 1), (91, .imul, 1), (92, .invokevirtual 50, 3), (95, .pop, 1), (96, .aload_n 0, 1), (97, .aload_n 2, 1), (98, .invokevirtual 57, 3), (101, .istore 4, 2), (103, .iload 7, 2), (105, .istore 5, 2), (107, .iinc 6 (1), 3), (110, .goto (-87), 3), (113, .iload 4, 2), (115, .ireturn, 1)]
theorem dc_Ro_extract : ∀ q ∈ dl_Ro_extract, decode (zd_yb m_Ro_extract) q.1 = .ok q.2 := by decide +kernel
def cd_Ro_extract (l : Launch) (B : zd_B) : List (Nat × zd_S) := [(0, oc_aload 1 1), (1, oc_getf B 4 1 4), (4, oc_ci (1) 5), (5, oc_iadd 6), (6, oc_ci (2) 7), (7, oc_idiv 8), (8, oc_istore 3 9), (9, oc_ci (0) 10), (10, oc_istore 4 12), (12, oc_aload 2 13), (13, oc_ci (0) 14), (14, oc_callv l B 4 m_Na_claim 1 17), (17, oc_ci (0) 18), (18, oc_istore 5 20), (20, oc_ci (0) 21), (21, oc_istore 6 23), (23, oc_iload 6 25), (25, oc_ci (226) 28), (28, oc_icmp_ge 113 31), (31, oc_iload 5 33), (33, oc_iload 3 34), (34, oc_icmp_ge 113 37), (37, oc_iload 3 38), (38, oc_iload 5 40), (40, oc_ci (1) 41), (41, oc_iadd 42), (42, oc_ci (2) 43), (43, oc_iload 5 45), (45, oc_imul 46), (46, oc_ci (1) 47), (47, oc_isub 48), (48, oc_calls l B m_Ma_max 2 51), (51, oc_calls l B m_Ma_min 2 54), (54, oc_istore 7 56), (56, oc_aload 0 57), (57, oc_getf B 5 1 60), (60, oc_aload 1 61), (61, oc_callv l B 4 m_Na_copy 1 64), (64, oc_aload 0 65), (65, oc_getf B 5 1 68), (68, oc_ci (-18) 70), (70, oc_iload 3 71), (71, oc_iload 7 73), (73, oc_isub 74), (74, oc_imul 75), (75, oc_callv l B 4 m_Na_move 1 78), (78, oc_pop 79), (79, oc_aload 2 80), (80, oc_callv l B 4 m_Na_increment 0 83), (83, oc_aload 2 84), (84, oc_ci (9) 86), (86, oc_iload 7 88), (88, oc_iload 5 90), (90, oc_isub 91), (91, oc_imul 92), (92, oc_callv l B 4 m_Na_move 1 95), (95, oc_pop 96), (96, oc_aload 0 97), (97, oc_aload 2 98), (98, oc_callv l B 5 m_Ro_descend 1 101), (101, oc_istore 4 103), (103, oc_iload 7 105), (105, oc_istore 5 107), (107, oc_iinc 6 (1) 110), (110, oc_goto 23), (113, oc_iload 4 115), (115, oc_iret .boolean)]
set_option maxRecDepth 20000 in
theorem ok_Ro_extract {l : Launch} {B : zd_B} (hG : zd_G B) (hl : l.stackTraces = false) : ∀ q ∈ cd_Ro_extract l B, zd_ok l B m_Ro_extract q.1 q.2 := by
  unfold cd_Ro_extract
  refine zd_ac (ok_aload_n (l := l) (B := B) (y := m_Ro_extract) (pc := 0) (k := 1) rfl (zd_dr dc_Ro_extract 0 rfl)) ?_
  refine zd_ac (ok_getf (l := l) (B := B) (y := m_Ro_extract) (pc := 1) hG (C := zR4) (T := zT4) (N := 2) (ci := 4) (k := 1) rfl zl4 (by decide) (List.mem_of_getElem? (i := 100) (by decide +kernel)) (zd_dr dc_Ro_extract 1 rfl)) ?_
  refine zd_ac (ok_iconst (l := l) (B := B) (y := m_Ro_extract) (pc := 4) (n := (1)) (zd_dr dc_Ro_extract 2 rfl) rfl) ?_
  refine zd_ac (ok_iadd (l := l) (B := B) (y := m_Ro_extract) (pc := 5) (zd_dr dc_Ro_extract 3 rfl)) ?_
  refine zd_ac (ok_iconst (l := l) (B := B) (y := m_Ro_extract) (pc := 6) (n := (2)) (zd_dr dc_Ro_extract 4 rfl) rfl) ?_
  refine zd_ac (ok_idiv (l := l) (B := B) (y := m_Ro_extract) (pc := 7) (zd_dr dc_Ro_extract 5 rfl)) ?_
  refine zd_ac (ok_istore_n (l := l) (B := B) (y := m_Ro_extract) (pc := 8) (k := 3) rfl (zd_dr dc_Ro_extract 6 rfl) (by decide)) ?_
  refine zd_ac (ok_iconst (l := l) (B := B) (y := m_Ro_extract) (pc := 9) (n := (0)) (zd_dr dc_Ro_extract 7 rfl) rfl) ?_
  refine zd_ac (ok_istore (l := l) (B := B) (y := m_Ro_extract) (pc := 10) (zd_dr dc_Ro_extract 8 rfl) (by decide)) ?_
  refine zd_ac (ok_aload_n (l := l) (B := B) (y := m_Ro_extract) (pc := 12) (k := 2) rfl (zd_dr dc_Ro_extract 9 rfl)) ?_
  refine zd_ac (ok_iconst (l := l) (B := B) (y := m_Ro_extract) (pc := 13) (n := (0)) (zd_dr dc_Ro_extract 10 rfl) rfl) ?_
  refine zd_ac (ok_callv (l := l) (B := B) (y := m_Ro_extract) (pc := 14) hG (ci := 4) rfl cf_Ro_extract_Na_claim rfl (List.mem_of_getElem? (i := 729) (by decide +kernel)) (List.mem_of_getElem? (i := 442) (by decide +kernel)) (List.mem_of_getElem? (i := 443) (by decide +kernel)) (zd_dr dc_Ro_extract 11 rfl)) ?_
  refine zd_ac (ok_iconst (l := l) (B := B) (y := m_Ro_extract) (pc := 17) (n := (0)) (zd_dr dc_Ro_extract 12 rfl) rfl) ?_
  refine zd_ac (ok_istore (l := l) (B := B) (y := m_Ro_extract) (pc := 18) (zd_dr dc_Ro_extract 13 rfl) (by decide)) ?_
  refine zd_ac (ok_iconst (l := l) (B := B) (y := m_Ro_extract) (pc := 20) (n := (0)) (zd_dr dc_Ro_extract 14 rfl) rfl) ?_
  refine zd_ac (ok_istore (l := l) (B := B) (y := m_Ro_extract) (pc := 21) (zd_dr dc_Ro_extract 15 rfl) (by decide)) ?_
  refine zd_ac (ok_iload (l := l) (B := B) (y := m_Ro_extract) (pc := 23) (zd_dr dc_Ro_extract 16 rfl)) ?_
  refine zd_ac (ok_sipush (l := l) (B := B) (y := m_Ro_extract) (pc := 25) (n := (226)) (zd_dr dc_Ro_extract 17 rfl) rfl) ?_
  refine zd_ac (ok_icmp_ge (l := l) (B := B) (y := m_Ro_extract) (pc := 28) (zd_dr dc_Ro_extract 18 rfl) (by decide)) ?_
  refine zd_ac (ok_iload (l := l) (B := B) (y := m_Ro_extract) (pc := 31) (zd_dr dc_Ro_extract 19 rfl)) ?_
  refine zd_ac (ok_iload_n (l := l) (B := B) (y := m_Ro_extract) (pc := 33) (k := 3) rfl (zd_dr dc_Ro_extract 20 rfl)) ?_
  refine zd_ac (ok_icmp_ge (l := l) (B := B) (y := m_Ro_extract) (pc := 34) (zd_dr dc_Ro_extract 21 rfl) (by decide)) ?_
  refine zd_ac (ok_iload_n (l := l) (B := B) (y := m_Ro_extract) (pc := 37) (k := 3) rfl (zd_dr dc_Ro_extract 22 rfl)) ?_
  refine zd_ac (ok_iload (l := l) (B := B) (y := m_Ro_extract) (pc := 38) (zd_dr dc_Ro_extract 23 rfl)) ?_
  refine zd_ac (ok_iconst (l := l) (B := B) (y := m_Ro_extract) (pc := 40) (n := (1)) (zd_dr dc_Ro_extract 24 rfl) rfl) ?_
  refine zd_ac (ok_iadd (l := l) (B := B) (y := m_Ro_extract) (pc := 41) (zd_dr dc_Ro_extract 25 rfl)) ?_
  refine zd_ac (ok_iconst (l := l) (B := B) (y := m_Ro_extract) (pc := 42) (n := (2)) (zd_dr dc_Ro_extract 26 rfl) rfl) ?_
  refine zd_ac (ok_iload (l := l) (B := B) (y := m_Ro_extract) (pc := 43) (zd_dr dc_Ro_extract 27 rfl)) ?_
  refine zd_ac (ok_imul (l := l) (B := B) (y := m_Ro_extract) (pc := 45) (zd_dr dc_Ro_extract 28 rfl)) ?_
  refine zd_ac (ok_iconst (l := l) (B := B) (y := m_Ro_extract) (pc := 46) (n := (1)) (zd_dr dc_Ro_extract 29 rfl) rfl) ?_
  refine zd_ac (ok_isub (l := l) (B := B) (y := m_Ro_extract) (pc := 47) (zd_dr dc_Ro_extract 30 rfl)) ?_
  refine zd_ac (ok_calls (l := l) (B := B) (y := m_Ro_extract) (pc := 48) hG cf_Ro_extract_Ma_max rfl (List.mem_of_getElem? (i := 730) (by decide +kernel)) (List.mem_of_getElem? (i := 524) (by decide +kernel)) (List.mem_of_getElem? (i := 72) (by decide +kernel)) (zd_dr dc_Ro_extract 31 rfl)) ?_
  refine zd_ac (ok_calls (l := l) (B := B) (y := m_Ro_extract) (pc := 51) hG cf_Ro_extract_Ma_min rfl (List.mem_of_getElem? (i := 731) (by decide +kernel)) (List.mem_of_getElem? (i := 688) (by decide +kernel)) (List.mem_of_getElem? (i := 72) (by decide +kernel)) (zd_dr dc_Ro_extract 32 rfl)) ?_
  refine zd_ac (ok_istore (l := l) (B := B) (y := m_Ro_extract) (pc := 54) (zd_dr dc_Ro_extract 33 rfl) (by decide)) ?_
  refine zd_ac (ok_aload_n (l := l) (B := B) (y := m_Ro_extract) (pc := 56) (k := 0) rfl (zd_dr dc_Ro_extract 34 rfl)) ?_
  refine zd_ac (ok_getf (l := l) (B := B) (y := m_Ro_extract) (pc := 57) hG (C := zR5) (T := zT5) (N := 4) (ci := 5) (k := 1) rfl zl5 (by decide) (List.mem_of_getElem? (i := 192) (by decide +kernel)) (zd_dr dc_Ro_extract 35 rfl)) ?_
  refine zd_ac (ok_aload_n (l := l) (B := B) (y := m_Ro_extract) (pc := 60) (k := 1) rfl (zd_dr dc_Ro_extract 36 rfl)) ?_
  refine zd_ac (ok_callv (l := l) (B := B) (y := m_Ro_extract) (pc := 61) hG (ci := 4) rfl cf_Ro_extract_Na_copy rfl (List.mem_of_getElem? (i := 732) (by decide +kernel)) (List.mem_of_getElem? (i := 483) (by decide +kernel)) (List.mem_of_getElem? (i := 484) (by decide +kernel)) (zd_dr dc_Ro_extract 37 rfl)) ?_
  refine zd_ac (ok_aload_n (l := l) (B := B) (y := m_Ro_extract) (pc := 64) (k := 0) rfl (zd_dr dc_Ro_extract 38 rfl)) ?_
  refine zd_ac (ok_getf (l := l) (B := B) (y := m_Ro_extract) (pc := 65) hG (C := zR5) (T := zT5) (N := 4) (ci := 5) (k := 1) rfl zl5 (by decide) (List.mem_of_getElem? (i := 192) (by decide +kernel)) (zd_dr dc_Ro_extract 39 rfl)) ?_
  refine zd_ac (ok_bipush (l := l) (B := B) (y := m_Ro_extract) (pc := 68) (n := (-18)) (zd_dr dc_Ro_extract 40 rfl) rfl) ?_
  refine zd_ac (ok_iload_n (l := l) (B := B) (y := m_Ro_extract) (pc := 70) (k := 3) rfl (zd_dr dc_Ro_extract 41 rfl)) ?_
  refine zd_ac (ok_iload (l := l) (B := B) (y := m_Ro_extract) (pc := 71) (zd_dr dc_Ro_extract 42 rfl)) ?_
  refine zd_ac (ok_isub (l := l) (B := B) (y := m_Ro_extract) (pc := 73) (zd_dr dc_Ro_extract 43 rfl)) ?_
  refine zd_ac (ok_imul (l := l) (B := B) (y := m_Ro_extract) (pc := 74) (zd_dr dc_Ro_extract 44 rfl)) ?_
  refine zd_ac (ok_callv (l := l) (B := B) (y := m_Ro_extract) (pc := 75) hG (ci := 4) rfl cf_Ro_extract_Na_move rfl (List.mem_of_getElem? (i := 733) (by decide +kernel)) (List.mem_of_getElem? (i := 537) (by decide +kernel)) (List.mem_of_getElem? (i := 538) (by decide +kernel)) (zd_dr dc_Ro_extract 45 rfl)) ?_
  refine zd_ac (ok_pop (l := l) (B := B) (y := m_Ro_extract) (pc := 78) (zd_dr dc_Ro_extract 46 rfl)) ?_
  refine zd_ac (ok_aload_n (l := l) (B := B) (y := m_Ro_extract) (pc := 79) (k := 2) rfl (zd_dr dc_Ro_extract 47 rfl)) ?_
  refine zd_ac (ok_callv (l := l) (B := B) (y := m_Ro_extract) (pc := 80) hG (ci := 4) rfl cf_Ro_extract_Na_increment rfl (List.mem_of_getElem? (i := 734) (by decide +kernel)) (List.mem_of_getElem? (i := 660) (by decide +kernel)) (List.mem_of_getElem? (i := 661) (by decide +kernel)) (zd_dr dc_Ro_extract 48 rfl)) ?_
  refine zd_ac (ok_aload_n (l := l) (B := B) (y := m_Ro_extract) (pc := 83) (k := 2) rfl (zd_dr dc_Ro_extract 49 rfl)) ?_
  refine zd_ac (ok_bipush (l := l) (B := B) (y := m_Ro_extract) (pc := 84) (n := (9)) (zd_dr dc_Ro_extract 50 rfl) rfl) ?_
  refine zd_ac (ok_iload (l := l) (B := B) (y := m_Ro_extract) (pc := 86) (zd_dr dc_Ro_extract 51 rfl)) ?_
  refine zd_ac (ok_iload (l := l) (B := B) (y := m_Ro_extract) (pc := 88) (zd_dr dc_Ro_extract 52 rfl)) ?_
  refine zd_ac (ok_isub (l := l) (B := B) (y := m_Ro_extract) (pc := 90) (zd_dr dc_Ro_extract 53 rfl)) ?_
  refine zd_ac (ok_imul (l := l) (B := B) (y := m_Ro_extract) (pc := 91) (zd_dr dc_Ro_extract 54 rfl)) ?_
  refine zd_ac (ok_callv (l := l) (B := B) (y := m_Ro_extract) (pc := 92) hG (ci := 4) rfl cf_Ro_extract_Na_move rfl (List.mem_of_getElem? (i := 733) (by decide +kernel)) (List.mem_of_getElem? (i := 537) (by decide +kernel)) (List.mem_of_getElem? (i := 538) (by decide +kernel)) (zd_dr dc_Ro_extract 55 rfl)) ?_
  refine zd_ac (ok_pop (l := l) (B := B) (y := m_Ro_extract) (pc := 95) (zd_dr dc_Ro_extract 56 rfl)) ?_
  refine zd_ac (ok_aload_n (l := l) (B := B) (y := m_Ro_extract) (pc := 96) (k := 0) rfl (zd_dr dc_Ro_extract 57 rfl)) ?_
  refine zd_ac (ok_aload_n (l := l) (B := B) (y := m_Ro_extract) (pc := 97) (k := 2) rfl (zd_dr dc_Ro_extract 58 rfl)) ?_
  refine zd_ac (ok_callv (l := l) (B := B) (y := m_Ro_extract) (pc := 98) hG (ci := 5) rfl cf_Ro_extract_Ro_descend rfl (List.mem_of_getElem? (i := 735) (by decide +kernel)) (List.mem_of_getElem? (i := 737) (by decide +kernel)) (List.mem_of_getElem? (i := 17) (by decide +kernel)) (zd_dr dc_Ro_extract 59 rfl)) ?_
  refine zd_ac (ok_istore (l := l) (B := B) (y := m_Ro_extract) (pc := 101) (zd_dr dc_Ro_extract 60 rfl) (by decide)) ?_
  refine zd_ac (ok_iload (l := l) (B := B) (y := m_Ro_extract) (pc := 103) (zd_dr dc_Ro_extract 61 rfl)) ?_
  refine zd_ac (ok_istore (l := l) (B := B) (y := m_Ro_extract) (pc := 105) (zd_dr dc_Ro_extract 62 rfl) (by decide)) ?_
  refine zd_ac (ok_iinc (l := l) (B := B) (y := m_Ro_extract) (pc := 107) (zd_dr dc_Ro_extract 63 rfl) (by decide) rfl) ?_
  refine zd_ac (ok_goto (l := l) (B := B) (y := m_Ro_extract) (pc := 110) (zd_dr dc_Ro_extract 64 rfl) (by decide)) ?_
  refine zd_ac (ok_iload (l := l) (B := B) (y := m_Ro_extract) (pc := 113) (zd_dr dc_Ro_extract 65 rfl)) ?_
  refine zd_ac (ok_iret (l := l) (B := B) (y := m_Ro_extract) (pc := 115) rfl (zd_dr dc_Ro_extract 66 rfl)) ?_
  exact zd_an
def dl_Ro_descend : List (Nat × Instr × Nat) := [(0, .iconst (0), 1), (1, .istore_n 2, 1), (2, .iload_n 2, 1), (3, .sipush (1000), 3), (6, .if_icmp .ge (82), 3), (9, .aload_n 0, 1), (10, .getfield 20, 3), (13, .aload_n 0, 1), (14, .getfield 14, 3), (17, .invokevirtual 46, 3), (20, .aload_n 0, 1), (21, .getfield 26, 3), (24, .aload_n 0, 1), (25, .getfield 20, 3), (28, .aload_n 1, 1), (29, .aload_n 0, 1), (30, .getfield 23, 3), (33, .invokevirtual 61, 3), (36, .aload_n 0, 1), (37, .getfield 23, 3), (40, .aload_n 1, 1), (41, .invokevirtual 67, 3), (44, .istore_n 3, 1), (45, .iload_n 3, 1), (46, .ifCond .lt (23), 3), (49, .iload_n 3, 1), (50, .ifCond .ne (17), 3), (53, .aload_n 0, 1), (54, .getfield 20, 3), (57, .invokevirtual 71, 3), (60, .ifCond .eq (7), 3), (63, .iconst (1), 1), (64, .goto (4), 3), (67, .iconst (0), 1), (68, .ireturn, 1), (69, .aload_n 1, 1), (70, .aload_n 0, 1), (71, .getfield 23, 3), (74, .invokevirtual 75, 3), (77, .aload_n 1, 1), (78, .iconst (2), 1), (79, .invokevirtual 78, 3), (82, .iinc 2 (1), 3), (85, .goto (-83), 3), (88, .iconst (0), 1), (89, .ireturn, 1)]
theorem dc_Ro_descend : ∀ q ∈ dl_Ro_descend, decode (zd_yb m_Ro_descend) q.1 = .ok q.2 := by decide +kernel
def cd_Ro_descend (l : Launch) (B : zd_B) : List (Nat × zd_S) := [(0, oc_ci (0) 1), (1, oc_istore 2 2), (2, oc_iload 2 3), (3, oc_ci (1000) 6), (6, oc_icmp_ge 88 9), (9, oc_aload 0 10), (10, oc_getf B 5 2 13), (13, oc_aload 0 14), (14, oc_getf B 5 1 17), (17, oc_callv l B 4 m_Na_copy 1 20), (20, oc_aload 0 21), (21, oc_getf B 5 0 24), (24, oc_aload 0 25), (25, oc_getf B 5 2 28), (28, oc_aload 1 29), (29, oc_aload 0 30), (30, oc_getf B 5 3 33), (33, oc_callv l B 2 m_Dv_split 3 36), (36, oc_aload 0 37), (37, oc_getf B 5 3 40), (40, oc_aload 1 41), (41, oc_callv l B 4 m_Na_order 1 44), (44, oc_istore 3 45), (45, oc_iload 3 46), (46, oc_if_lt 69 49), (49, oc_iload 3 50), (50, oc_if_ne 67 53), (53, oc_aload 0 54), (54, oc_getf B 5 2 57), (57, oc_callv l B 4 m_Na_isZero 0 60), (60, oc_if_eq 67 63), (63, oc_ci (1) 64), (64, oc_goto 68), (67, oc_ci (0) 68), (68, oc_iret .boolean), (69, oc_aload 1 70), (70, oc_aload 0 71), (71, oc_getf B 5 3 74), (74, oc_callv l B 4 m_Na_raiseBy 1 77), (77, oc_aload 1 78), (78, oc_ci (2) 79), (79, oc_callv l B 4 m_Na_overSmall 1 82), (82, oc_iinc 2 (1) 85), (85, oc_goto 2), (88, oc_ci (0) 89), (89, oc_iret .boolean)]
set_option maxRecDepth 20000 in
theorem ok_Ro_descend {l : Launch} {B : zd_B} (hG : zd_G B) (hl : l.stackTraces = false) : ∀ q ∈ cd_Ro_descend l B, zd_ok l B m_Ro_descend q.1 q.2 := by
  unfold cd_Ro_descend
  refine zd_ac (ok_iconst (l := l) (B := B) (y := m_Ro_descend) (pc := 0) (n := (0)) (zd_dr dc_Ro_descend 0 rfl) rfl) ?_
  refine zd_ac (ok_istore_n (l := l) (B := B) (y := m_Ro_descend) (pc := 1) (k := 2) rfl (zd_dr dc_Ro_descend 1 rfl) (by decide)) ?_
  refine zd_ac (ok_iload_n (l := l) (B := B) (y := m_Ro_descend) (pc := 2) (k := 2) rfl (zd_dr dc_Ro_descend 2 rfl)) ?_
  refine zd_ac (ok_sipush (l := l) (B := B) (y := m_Ro_descend) (pc := 3) (n := (1000)) (zd_dr dc_Ro_descend 3 rfl) rfl) ?_
  refine zd_ac (ok_icmp_ge (l := l) (B := B) (y := m_Ro_descend) (pc := 6) (zd_dr dc_Ro_descend 4 rfl) (by decide)) ?_
  refine zd_ac (ok_aload_n (l := l) (B := B) (y := m_Ro_descend) (pc := 9) (k := 0) rfl (zd_dr dc_Ro_descend 5 rfl)) ?_
  refine zd_ac (ok_getf (l := l) (B := B) (y := m_Ro_descend) (pc := 10) hG (C := zR5) (T := zT5) (N := 4) (ci := 5) (k := 2) rfl zl5 (by decide) (List.mem_of_getElem? (i := 193) (by decide +kernel)) (zd_dr dc_Ro_descend 6 rfl)) ?_
  refine zd_ac (ok_aload_n (l := l) (B := B) (y := m_Ro_descend) (pc := 13) (k := 0) rfl (zd_dr dc_Ro_descend 7 rfl)) ?_
  refine zd_ac (ok_getf (l := l) (B := B) (y := m_Ro_descend) (pc := 14) hG (C := zR5) (T := zT5) (N := 4) (ci := 5) (k := 1) rfl zl5 (by decide) (List.mem_of_getElem? (i := 192) (by decide +kernel)) (zd_dr dc_Ro_descend 8 rfl)) ?_
  refine zd_ac (ok_callv (l := l) (B := B) (y := m_Ro_descend) (pc := 17) hG (ci := 4) rfl cf_Ro_descend_Na_copy rfl (List.mem_of_getElem? (i := 732) (by decide +kernel)) (List.mem_of_getElem? (i := 483) (by decide +kernel)) (List.mem_of_getElem? (i := 484) (by decide +kernel)) (zd_dr dc_Ro_descend 9 rfl)) ?_
  refine zd_ac (ok_aload_n (l := l) (B := B) (y := m_Ro_descend) (pc := 20) (k := 0) rfl (zd_dr dc_Ro_descend 10 rfl)) ?_
  refine zd_ac (ok_getf (l := l) (B := B) (y := m_Ro_descend) (pc := 21) hG (C := zR5) (T := zT5) (N := 4) (ci := 5) (k := 0) rfl zl5 (by decide) (List.mem_of_getElem? (i := 191) (by decide +kernel)) (zd_dr dc_Ro_descend 11 rfl)) ?_
  refine zd_ac (ok_aload_n (l := l) (B := B) (y := m_Ro_descend) (pc := 24) (k := 0) rfl (zd_dr dc_Ro_descend 12 rfl)) ?_
  refine zd_ac (ok_getf (l := l) (B := B) (y := m_Ro_descend) (pc := 25) hG (C := zR5) (T := zT5) (N := 4) (ci := 5) (k := 2) rfl zl5 (by decide) (List.mem_of_getElem? (i := 193) (by decide +kernel)) (zd_dr dc_Ro_descend 13 rfl)) ?_
  refine zd_ac (ok_aload_n (l := l) (B := B) (y := m_Ro_descend) (pc := 28) (k := 1) rfl (zd_dr dc_Ro_descend 14 rfl)) ?_
  refine zd_ac (ok_aload_n (l := l) (B := B) (y := m_Ro_descend) (pc := 29) (k := 0) rfl (zd_dr dc_Ro_descend 15 rfl)) ?_
  refine zd_ac (ok_getf (l := l) (B := B) (y := m_Ro_descend) (pc := 30) hG (C := zR5) (T := zT5) (N := 4) (ci := 5) (k := 3) rfl zl5 (by decide) (List.mem_of_getElem? (i := 194) (by decide +kernel)) (zd_dr dc_Ro_descend 16 rfl)) ?_
  refine zd_ac (ok_callv (l := l) (B := B) (y := m_Ro_descend) (pc := 33) hG (ci := 2) rfl cf_Ro_descend_Dv_split rfl (List.mem_of_getElem? (i := 739) (by decide +kernel)) (List.mem_of_getElem? (i := 608) (by decide +kernel)) (List.mem_of_getElem? (i := 609) (by decide +kernel)) (zd_dr dc_Ro_descend 17 rfl)) ?_
  refine zd_ac (ok_aload_n (l := l) (B := B) (y := m_Ro_descend) (pc := 36) (k := 0) rfl (zd_dr dc_Ro_descend 18 rfl)) ?_
  refine zd_ac (ok_getf (l := l) (B := B) (y := m_Ro_descend) (pc := 37) hG (C := zR5) (T := zT5) (N := 4) (ci := 5) (k := 3) rfl zl5 (by decide) (List.mem_of_getElem? (i := 194) (by decide +kernel)) (zd_dr dc_Ro_descend 19 rfl)) ?_
  refine zd_ac (ok_aload_n (l := l) (B := B) (y := m_Ro_descend) (pc := 40) (k := 1) rfl (zd_dr dc_Ro_descend 20 rfl)) ?_
  refine zd_ac (ok_callv (l := l) (B := B) (y := m_Ro_descend) (pc := 41) hG (ci := 4) rfl cf_Ro_descend_Na_order rfl (List.mem_of_getElem? (i := 740) (by decide +kernel)) (List.mem_of_getElem? (i := 562) (by decide +kernel)) (List.mem_of_getElem? (i := 563) (by decide +kernel)) (zd_dr dc_Ro_descend 21 rfl)) ?_
  refine zd_ac (ok_istore_n (l := l) (B := B) (y := m_Ro_descend) (pc := 44) (k := 3) rfl (zd_dr dc_Ro_descend 22 rfl) (by decide)) ?_
  refine zd_ac (ok_iload_n (l := l) (B := B) (y := m_Ro_descend) (pc := 45) (k := 3) rfl (zd_dr dc_Ro_descend 23 rfl)) ?_
  refine zd_ac (ok_if_lt (l := l) (B := B) (y := m_Ro_descend) (pc := 46) (zd_dr dc_Ro_descend 24 rfl) (by decide)) ?_
  refine zd_ac (ok_iload_n (l := l) (B := B) (y := m_Ro_descend) (pc := 49) (k := 3) rfl (zd_dr dc_Ro_descend 25 rfl)) ?_
  refine zd_ac (ok_if_ne (l := l) (B := B) (y := m_Ro_descend) (pc := 50) (zd_dr dc_Ro_descend 26 rfl) (by decide)) ?_
  refine zd_ac (ok_aload_n (l := l) (B := B) (y := m_Ro_descend) (pc := 53) (k := 0) rfl (zd_dr dc_Ro_descend 27 rfl)) ?_
  refine zd_ac (ok_getf (l := l) (B := B) (y := m_Ro_descend) (pc := 54) hG (C := zR5) (T := zT5) (N := 4) (ci := 5) (k := 2) rfl zl5 (by decide) (List.mem_of_getElem? (i := 193) (by decide +kernel)) (zd_dr dc_Ro_descend 28 rfl)) ?_
  refine zd_ac (ok_callv (l := l) (B := B) (y := m_Ro_descend) (pc := 57) hG (ci := 4) rfl cf_Ro_descend_Na_isZero rfl (List.mem_of_getElem? (i := 741) (by decide +kernel)) (List.mem_of_getElem? (i := 490) (by decide +kernel)) (List.mem_of_getElem? (i := 491) (by decide +kernel)) (zd_dr dc_Ro_descend 29 rfl)) ?_
  refine zd_ac (ok_if_eq (l := l) (B := B) (y := m_Ro_descend) (pc := 60) (zd_dr dc_Ro_descend 30 rfl) (by decide)) ?_
  refine zd_ac (ok_iconst (l := l) (B := B) (y := m_Ro_descend) (pc := 63) (n := (1)) (zd_dr dc_Ro_descend 31 rfl) rfl) ?_
  refine zd_ac (ok_goto (l := l) (B := B) (y := m_Ro_descend) (pc := 64) (zd_dr dc_Ro_descend 32 rfl) (by decide)) ?_
  refine zd_ac (ok_iconst (l := l) (B := B) (y := m_Ro_descend) (pc := 67) (n := (0)) (zd_dr dc_Ro_descend 33 rfl) rfl) ?_
  refine zd_ac (ok_iret (l := l) (B := B) (y := m_Ro_descend) (pc := 68) rfl (zd_dr dc_Ro_descend 34 rfl)) ?_
  refine zd_ac (ok_aload_n (l := l) (B := B) (y := m_Ro_descend) (pc := 69) (k := 1) rfl (zd_dr dc_Ro_descend 35 rfl)) ?_
  refine zd_ac (ok_aload_n (l := l) (B := B) (y := m_Ro_descend) (pc := 70) (k := 0) rfl (zd_dr dc_Ro_descend 36 rfl)) ?_
  refine zd_ac (ok_getf (l := l) (B := B) (y := m_Ro_descend) (pc := 71) hG (C := zR5) (T := zT5) (N := 4) (ci := 5) (k := 3) rfl zl5 (by decide) (List.mem_of_getElem? (i := 194) (by decide +kernel)) (zd_dr dc_Ro_descend 37 rfl)) ?_
  refine zd_ac (ok_callv (l := l) (B := B) (y := m_Ro_descend) (pc := 74) hG (ci := 4) rfl cf_Ro_descend_Na_raiseBy rfl (List.mem_of_getElem? (i := 742) (by decide +kernel)) (List.mem_of_getElem? (i := 557) (by decide +kernel)) (List.mem_of_getElem? (i := 558) (by decide +kernel)) (zd_dr dc_Ro_descend 38 rfl)) ?_
  refine zd_ac (ok_aload_n (l := l) (B := B) (y := m_Ro_descend) (pc := 77) (k := 1) rfl (zd_dr dc_Ro_descend 39 rfl)) ?_
  refine zd_ac (ok_iconst (l := l) (B := B) (y := m_Ro_descend) (pc := 78) (n := (2)) (zd_dr dc_Ro_descend 40 rfl) rfl) ?_
  refine zd_ac (ok_callv (l := l) (B := B) (y := m_Ro_descend) (pc := 79) hG (ci := 4) rfl cf_Ro_descend_Na_overSmall rfl (List.mem_of_getElem? (i := 743) (by decide +kernel)) (List.mem_of_getElem? (i := 640) (by decide +kernel)) (List.mem_of_getElem? (i := 641) (by decide +kernel)) (zd_dr dc_Ro_descend 41 rfl)) ?_
  refine zd_ac (ok_iinc (l := l) (B := B) (y := m_Ro_descend) (pc := 82) (zd_dr dc_Ro_descend 42 rfl) (by decide) rfl) ?_
  refine zd_ac (ok_goto (l := l) (B := B) (y := m_Ro_descend) (pc := 85) (zd_dr dc_Ro_descend 43 rfl) (by decide)) ?_
  refine zd_ac (ok_iconst (l := l) (B := B) (y := m_Ro_descend) (pc := 88) (n := (0)) (zd_dr dc_Ro_descend 44 rfl) rfl) ?_
  refine zd_ac (ok_iret (l := l) (B := B) (y := m_Ro_descend) (pc := 89) rfl (zd_dr dc_Ro_descend 45 rfl)) ?_
  exact zd_an
def dl_Dc_init : List (Nat × Instr × Nat) := [(0, .aload_n 0, 1), (1, .invokespecial 3, 3), (4, .aload_n 0, 1), (5, .new 9, 3), (8, .dup, 1), (9, .bipush (112), 2), (11, .invokespecial 11, 3), (14, .putfield 14, 3), (17, .return_, 1)]
theorem dc_Dc_init : ∀ q ∈ dl_Dc_init, decode (zd_yb m_Dc_init) q.1 = .ok q.2 := by decide +kernel
def cd_Dc_init (l : Launch) (B : zd_B) : List (Nat × zd_S) := [(0, oc_aload 0 1), (1, oc_oinit 4), (4, oc_aload 0 5), (5, oc_new B 4 2 [.null, .int 0] 8), (8, oc_dup 9), (9, oc_ci (112) 11), (11, oc_calli l B m_Na_init 1 14), (14, oc_putf B (zy1 0) 1 0 17), (17, oc_vret)]
set_option maxRecDepth 20000 in
theorem ok_Dc_init {l : Launch} {B : zd_B} (hG : zd_G B) (hl : l.stackTraces = false) : ∀ q ∈ cd_Dc_init l B, zd_ok l B m_Dc_init q.1 q.2 := by
  unfold cd_Dc_init
  refine zd_ac (ok_aload_n (l := l) (B := B) (y := m_Dc_init) (pc := 0) (k := 0) rfl (zd_dr dc_Dc_init 0 rfl)) ?_
  refine zd_ac (ok_oinit (l := l) (B := B) (y := m_Dc_init) (pc := 1) hG (List.mem_of_getElem? (i := 89) (by decide +kernel)) (List.mem_of_getElem? (i := 81) (by decide +kernel)) (List.mem_of_getElem? (i := 82) (by decide +kernel)) (by decide) (by decide) (zd_dr dc_Dc_init 1 rfl)) ?_
  refine zd_ac (ok_aload_n (l := l) (B := B) (y := m_Dc_init) (pc := 4) (k := 0) rfl (zd_dr dc_Dc_init 2 rfl)) ?_
  refine zd_ac (ok_new (l := l) (B := B) (y := m_Dc_init) (pc := 5) hG (C := zR4) (T := zT4) (ty := zy4) (N := 2) rfl zl4 zt4 (List.mem_of_getElem? (i := 90) (by decide +kernel)) (List.mem_of_getElem? (i := 91) (by decide +kernel)) (List.mem_of_getElem? (i := 58) (by decide +kernel)) (by decide) (zd_dr dc_Dc_init 3 rfl)) ?_
  refine zd_ac (ok_dup (l := l) (B := B) (y := m_Dc_init) (pc := 8) (zd_dr dc_Dc_init 4 rfl)) ?_
  refine zd_ac (ok_bipush (l := l) (B := B) (y := m_Dc_init) (pc := 9) (n := (112)) (zd_dr dc_Dc_init 5 rfl) rfl) ?_
  refine zd_ac (ok_calli (l := l) (B := B) (y := m_Dc_init) (pc := 11) hG cf_Dc_init_Na_init rfl rfl rfl rfl (List.mem_of_getElem? (i := 92) (by decide +kernel)) (List.mem_of_getElem? (i := 93) (by decide +kernel)) (zd_dr dc_Dc_init 6 rfl)) ?_
  refine zd_ac (ok_putfF (l := l) (B := B) (y := m_Dc_init) (pc := 14) hG (C := zR1) (T := zT1) (N := 3) (ci := 1) (k := 0) rfl zl1 zt1 (by decide) (List.mem_of_getElem? (i := 107) (by decide +kernel)) rfl rfl rfl (zd_dr dc_Dc_init 7 rfl)) ?_
  refine zd_ac (ok_vret (l := l) (B := B) (y := m_Dc_init) (pc := 17) rfl (zd_dr dc_Dc_init 8 rfl)) ?_
  exact zd_an
def dl_Dc_sign : List (Nat × Instr × Nat) := [(0, .aload_n 0, 1), (1, .getfield 14, 3), (4, .invokevirtual 20, 3), (7, .ifCond .eq (5), 3), (10, .iconst (0), 1), (11, .ireturn, 1), (12, .aload_n 0, 1), (13, .getfield 24, 3), (16, .ifCond .eq (7), 3), (19, .iconst (-1), 1), (20, .goto (4), 3), (23, .iconst (1), 1), (24, .ireturn, 1)]
theorem dc_Dc_sign : ∀ q ∈ dl_Dc_sign, decode (zd_yb m_Dc_sign) q.1 = .ok q.2 := by decide +kernel
def cd_Dc_sign (l : Launch) (B : zd_B) : List (Nat × zd_S) := [(0, oc_aload 0 1), (1, oc_getf B 1 0 4), (4, oc_callv l B 4 m_Na_isZero 0 7), (7, oc_if_eq 12 10), (10, oc_ci (0) 11), (11, oc_iret .int), (12, oc_aload 0 13), (13, oc_getf B 1 1 16), (16, oc_if_eq 23 19), (19, oc_ci (-1) 20), (20, oc_goto 24), (23, oc_ci (1) 24), (24, oc_iret .int)]
set_option maxRecDepth 20000 in
theorem ok_Dc_sign {l : Launch} {B : zd_B} (hG : zd_G B) (hl : l.stackTraces = false) : ∀ q ∈ cd_Dc_sign l B, zd_ok l B m_Dc_sign q.1 q.2 := by
  unfold cd_Dc_sign
  refine zd_ac (ok_aload_n (l := l) (B := B) (y := m_Dc_sign) (pc := 0) (k := 0) rfl (zd_dr dc_Dc_sign 0 rfl)) ?_
  refine zd_ac (ok_getf (l := l) (B := B) (y := m_Dc_sign) (pc := 1) hG (C := zR1) (T := zT1) (N := 3) (ci := 1) (k := 0) rfl zl1 (by decide) (List.mem_of_getElem? (i := 107) (by decide +kernel)) (zd_dr dc_Dc_sign 1 rfl)) ?_
  refine zd_ac (ok_callv (l := l) (B := B) (y := m_Dc_sign) (pc := 4) hG (ci := 4) rfl cf_Dc_sign_Na_isZero rfl (List.mem_of_getElem? (i := 489) (by decide +kernel)) (List.mem_of_getElem? (i := 490) (by decide +kernel)) (List.mem_of_getElem? (i := 491) (by decide +kernel)) (zd_dr dc_Dc_sign 2 rfl)) ?_
  refine zd_ac (ok_if_eq (l := l) (B := B) (y := m_Dc_sign) (pc := 7) (zd_dr dc_Dc_sign 3 rfl) (by decide)) ?_
  refine zd_ac (ok_iconst (l := l) (B := B) (y := m_Dc_sign) (pc := 10) (n := (0)) (zd_dr dc_Dc_sign 4 rfl) rfl) ?_
  refine zd_ac (ok_iret (l := l) (B := B) (y := m_Dc_sign) (pc := 11) rfl (zd_dr dc_Dc_sign 5 rfl)) ?_
  refine zd_ac (ok_aload_n (l := l) (B := B) (y := m_Dc_sign) (pc := 12) (k := 0) rfl (zd_dr dc_Dc_sign 6 rfl)) ?_
  refine zd_ac (ok_getf (l := l) (B := B) (y := m_Dc_sign) (pc := 13) hG (C := zR1) (T := zT1) (N := 3) (ci := 1) (k := 1) rfl zl1 (by decide) (List.mem_of_getElem? (i := 111) (by decide +kernel)) (zd_dr dc_Dc_sign 7 rfl)) ?_
  refine zd_ac (ok_if_eq (l := l) (B := B) (y := m_Dc_sign) (pc := 16) (zd_dr dc_Dc_sign 8 rfl) (by decide)) ?_
  refine zd_ac (ok_iconst (l := l) (B := B) (y := m_Dc_sign) (pc := 19) (n := (-1)) (zd_dr dc_Dc_sign 9 rfl) rfl) ?_
  refine zd_ac (ok_goto (l := l) (B := B) (y := m_Dc_sign) (pc := 20) (zd_dr dc_Dc_sign 10 rfl) (by decide)) ?_
  refine zd_ac (ok_iconst (l := l) (B := B) (y := m_Dc_sign) (pc := 23) (n := (1)) (zd_dr dc_Dc_sign 11 rfl) rfl) ?_
  refine zd_ac (ok_iret (l := l) (B := B) (y := m_Dc_sign) (pc := 24) rfl (zd_dr dc_Dc_sign 12 rfl)) ?_
  exact zd_an
def dl_Dc_accept : List (Nat × Instr × Nat) := [(0, .aload_n 0, 1), (1, .getfield 14, 3), (4, .aload_n 1, 1), (5, .getfield 28, 3), (8, .invokevirtual 31, 3), (11, .aload_n 0, 1), (12, .aload_n 1, 1), (13, .getfield 35, 3), (16, .ifCond .eq (17), 3), (19, .aload_n 0, 1), (20, .getfield 14, 3), (23, .invokevirtual 20, 3), (26, .ifCond .ne (7), 3), (29, .iconst (1), 1), (30, .goto (4), 3), (33, .iconst (0), 1), (34, .putfield 24, 3), (37, .aload_n 0, 1), (38, .aload_n 1, 1), (39, .getfield 36, 3), (42, .putfield 40, 3), (45, .return_, 1)]
theorem dc_Dc_accept : ∀ q ∈ dl_Dc_accept, decode (zd_yb m_Dc_accept) q.1 = .ok q.2 := by decide +kernel
def cd_Dc_accept (l : Launch) (B : zd_B) : List (Nat × zd_S) := [(0, oc_aload 0 1), (1, oc_getf B 1 0 4), (4, oc_aload 1 5), (5, oc_getf B 6 0 8), (8, oc_callv l B 4 m_Na_copy 1 11), (11, oc_aload 0 12), (12, oc_aload 1 13), (13, oc_getf B 6 1 16), (16, oc_if_eq 33 19), (19, oc_aload 0 20), (20, oc_getf B 1 0 23), (23, oc_callv l B 4 m_Na_isZero 0 26), (26, oc_if_ne 33 29), (29, oc_ci (1) 30), (30, oc_goto 34), (33, oc_ci (0) 34), (34, oc_putf B (zy1 1) 1 1 37), (37, oc_aload 0 38), (38, oc_aload 1 39), (39, oc_getf B 6 2 42), (42, oc_putf B (zy1 2) 1 2 45), (45, oc_vret)]
set_option maxRecDepth 20000 in
theorem ok_Dc_accept {l : Launch} {B : zd_B} (hG : zd_G B) (hl : l.stackTraces = false) : ∀ q ∈ cd_Dc_accept l B, zd_ok l B m_Dc_accept q.1 q.2 := by
  unfold cd_Dc_accept
  refine zd_ac (ok_aload_n (l := l) (B := B) (y := m_Dc_accept) (pc := 0) (k := 0) rfl (zd_dr dc_Dc_accept 0 rfl)) ?_
  refine zd_ac (ok_getf (l := l) (B := B) (y := m_Dc_accept) (pc := 1) hG (C := zR1) (T := zT1) (N := 3) (ci := 1) (k := 0) rfl zl1 (by decide) (List.mem_of_getElem? (i := 107) (by decide +kernel)) (zd_dr dc_Dc_accept 1 rfl)) ?_
  refine zd_ac (ok_aload_n (l := l) (B := B) (y := m_Dc_accept) (pc := 4) (k := 1) rfl (zd_dr dc_Dc_accept 2 rfl)) ?_
  refine zd_ac (ok_getf (l := l) (B := B) (y := m_Dc_accept) (pc := 5) hG (C := zR6) (T := zT6) (N := 4) (ci := 6) (k := 0) rfl zl6 (by decide) (List.mem_of_getElem? (i := 213) (by decide +kernel)) (zd_dr dc_Dc_accept 3 rfl)) ?_
  refine zd_ac (ok_callv (l := l) (B := B) (y := m_Dc_accept) (pc := 8) hG (ci := 4) rfl cf_Dc_accept_Na_copy rfl (List.mem_of_getElem? (i := 482) (by decide +kernel)) (List.mem_of_getElem? (i := 483) (by decide +kernel)) (List.mem_of_getElem? (i := 484) (by decide +kernel)) (zd_dr dc_Dc_accept 4 rfl)) ?_
  refine zd_ac (ok_aload_n (l := l) (B := B) (y := m_Dc_accept) (pc := 11) (k := 0) rfl (zd_dr dc_Dc_accept 5 rfl)) ?_
  refine zd_ac (ok_aload_n (l := l) (B := B) (y := m_Dc_accept) (pc := 12) (k := 1) rfl (zd_dr dc_Dc_accept 6 rfl)) ?_
  refine zd_ac (ok_getf (l := l) (B := B) (y := m_Dc_accept) (pc := 13) hG (C := zR6) (T := zT6) (N := 4) (ci := 6) (k := 1) rfl zl6 (by decide) (List.mem_of_getElem? (i := 216) (by decide +kernel)) (zd_dr dc_Dc_accept 7 rfl)) ?_
  refine zd_ac (ok_if_eq (l := l) (B := B) (y := m_Dc_accept) (pc := 16) (zd_dr dc_Dc_accept 8 rfl) (by decide)) ?_
  refine zd_ac (ok_aload_n (l := l) (B := B) (y := m_Dc_accept) (pc := 19) (k := 0) rfl (zd_dr dc_Dc_accept 9 rfl)) ?_
  refine zd_ac (ok_getf (l := l) (B := B) (y := m_Dc_accept) (pc := 20) hG (C := zR1) (T := zT1) (N := 3) (ci := 1) (k := 0) rfl zl1 (by decide) (List.mem_of_getElem? (i := 107) (by decide +kernel)) (zd_dr dc_Dc_accept 10 rfl)) ?_
  refine zd_ac (ok_callv (l := l) (B := B) (y := m_Dc_accept) (pc := 23) hG (ci := 4) rfl cf_Dc_accept_Na_isZero rfl (List.mem_of_getElem? (i := 489) (by decide +kernel)) (List.mem_of_getElem? (i := 490) (by decide +kernel)) (List.mem_of_getElem? (i := 491) (by decide +kernel)) (zd_dr dc_Dc_accept 11 rfl)) ?_
  refine zd_ac (ok_if_ne (l := l) (B := B) (y := m_Dc_accept) (pc := 26) (zd_dr dc_Dc_accept 12 rfl) (by decide)) ?_
  refine zd_ac (ok_iconst (l := l) (B := B) (y := m_Dc_accept) (pc := 29) (n := (1)) (zd_dr dc_Dc_accept 13 rfl) rfl) ?_
  refine zd_ac (ok_goto (l := l) (B := B) (y := m_Dc_accept) (pc := 30) (zd_dr dc_Dc_accept 14 rfl) (by decide)) ?_
  refine zd_ac (ok_iconst (l := l) (B := B) (y := m_Dc_accept) (pc := 33) (n := (0)) (zd_dr dc_Dc_accept 15 rfl) rfl) ?_
  refine zd_ac (ok_putf (l := l) (B := B) (y := m_Dc_accept) (pc := 34) hG (C := zR1) (T := zT1) (N := 3) (ci := 1) (k := 1) rfl zl1 zt1 (by decide) (List.mem_of_getElem? (i := 111) (by decide +kernel)) rfl (zd_dr dc_Dc_accept 16 rfl)) ?_
  refine zd_ac (ok_aload_n (l := l) (B := B) (y := m_Dc_accept) (pc := 37) (k := 0) rfl (zd_dr dc_Dc_accept 17 rfl)) ?_
  refine zd_ac (ok_aload_n (l := l) (B := B) (y := m_Dc_accept) (pc := 38) (k := 1) rfl (zd_dr dc_Dc_accept 18 rfl)) ?_
  refine zd_ac (ok_getf (l := l) (B := B) (y := m_Dc_accept) (pc := 39) hG (C := zR6) (T := zT6) (N := 4) (ci := 6) (k := 2) rfl zl6 (by decide) (List.mem_of_getElem? (i := 219) (by decide +kernel)) (zd_dr dc_Dc_accept 19 rfl)) ?_
  refine zd_ac (ok_putf (l := l) (B := B) (y := m_Dc_accept) (pc := 42) hG (C := zR1) (T := zT1) (N := 3) (ci := 1) (k := 2) rfl zl1 zt1 (by decide) (List.mem_of_getElem? (i := 117) (by decide +kernel)) rfl (zd_dr dc_Dc_accept 20 rfl)) ?_
  refine zd_ac (ok_vret (l := l) (B := B) (y := m_Dc_accept) (pc := 45) rfl (zd_dr dc_Dc_accept 21 rfl)) ?_
  exact zd_an
def dl_Ru_init : List (Nat × Instr × Nat) := [(0, .aload_n 0, 1), (1, .invokespecial 3, 3), (4, .aload_n 0, 1), (5, .new 9, 3), (8, .dup, 1), (9, .sipush (226), 3), (12, .invokespecial 11, 3), (15, .putfield 14, 3), (18, .return_, 1)]
theorem dc_Ru_init : ∀ q ∈ dl_Ru_init, decode (zd_yb m_Ru_init) q.1 = .ok q.2 := by decide +kernel
def cd_Ru_init (l : Launch) (B : zd_B) : List (Nat × zd_S) := [(0, oc_aload 0 1), (1, oc_oinit 4), (4, oc_aload 0 5), (5, oc_new B 4 2 [.null, .int 0] 8), (8, oc_dup 9), (9, oc_ci (226) 12), (12, oc_calli l B m_Na_init 1 15), (15, oc_putf B (zy6 0) 6 0 18), (18, oc_vret)]
set_option maxRecDepth 20000 in
theorem ok_Ru_init {l : Launch} {B : zd_B} (hG : zd_G B) (hl : l.stackTraces = false) : ∀ q ∈ cd_Ru_init l B, zd_ok l B m_Ru_init q.1 q.2 := by
  unfold cd_Ru_init
  refine zd_ac (ok_aload_n (l := l) (B := B) (y := m_Ru_init) (pc := 0) (k := 0) rfl (zd_dr dc_Ru_init 0 rfl)) ?_
  refine zd_ac (ok_oinit (l := l) (B := B) (y := m_Ru_init) (pc := 1) hG (List.mem_of_getElem? (i := 209) (by decide +kernel)) (List.mem_of_getElem? (i := 81) (by decide +kernel)) (List.mem_of_getElem? (i := 82) (by decide +kernel)) (by decide) (by decide) (zd_dr dc_Ru_init 1 rfl)) ?_
  refine zd_ac (ok_aload_n (l := l) (B := B) (y := m_Ru_init) (pc := 4) (k := 0) rfl (zd_dr dc_Ru_init 2 rfl)) ?_
  refine zd_ac (ok_new (l := l) (B := B) (y := m_Ru_init) (pc := 5) hG (C := zR4) (T := zT4) (ty := zy4) (N := 2) rfl zl4 zt4 (List.mem_of_getElem? (i := 210) (by decide +kernel)) (List.mem_of_getElem? (i := 91) (by decide +kernel)) (List.mem_of_getElem? (i := 58) (by decide +kernel)) (by decide) (zd_dr dc_Ru_init 3 rfl)) ?_
  refine zd_ac (ok_dup (l := l) (B := B) (y := m_Ru_init) (pc := 8) (zd_dr dc_Ru_init 4 rfl)) ?_
  refine zd_ac (ok_sipush (l := l) (B := B) (y := m_Ru_init) (pc := 9) (n := (226)) (zd_dr dc_Ru_init 5 rfl) rfl) ?_
  refine zd_ac (ok_calli (l := l) (B := B) (y := m_Ru_init) (pc := 12) hG cf_Ru_init_Na_init rfl rfl rfl rfl (List.mem_of_getElem? (i := 211) (by decide +kernel)) (List.mem_of_getElem? (i := 93) (by decide +kernel)) (zd_dr dc_Ru_init 6 rfl)) ?_
  refine zd_ac (ok_putfF (l := l) (B := B) (y := m_Ru_init) (pc := 15) hG (C := zR6) (T := zT6) (N := 4) (ci := 6) (k := 0) rfl zl6 zt6 (by decide) (List.mem_of_getElem? (i := 212) (by decide +kernel)) rfl rfl rfl (zd_dr dc_Ru_init 7 rfl)) ?_
  refine zd_ac (ok_vret (l := l) (B := B) (y := m_Ru_init) (pc := 18) rfl (zd_dr dc_Ru_init 8 rfl)) ?_
  exact zd_an
def dl_Ru_describe : List (Nat × Instr × Nat) := [(0, .aload_n 0, 1), (1, .iload_n 1, 1), (2, .putfield 20, 3), (5, .aload_n 0, 1), (6, .iload_n 2, 1), (7, .putfield 24, 3), (10, .aload_n 0, 1), (11, .iconst (0), 1), (12, .putfield 28, 3), (15, .return_, 1)]
theorem dc_Ru_describe : ∀ q ∈ dl_Ru_describe, decode (zd_yb m_Ru_describe) q.1 = .ok q.2 := by decide +kernel
def cd_Ru_describe (l : Launch) (B : zd_B) : List (Nat × zd_S) := [(0, oc_aload 0 1), (1, oc_iload 1 2), (2, oc_putf B (zy6 1) 6 1 5), (5, oc_aload 0 6), (6, oc_iload 2 7), (7, oc_putf B (zy6 2) 6 2 10), (10, oc_aload 0 11), (11, oc_ci (0) 12), (12, oc_putf B (zy6 3) 6 3 15), (15, oc_vret)]
set_option maxRecDepth 20000 in
theorem ok_Ru_describe {l : Launch} {B : zd_B} (hG : zd_G B) (hl : l.stackTraces = false) : ∀ q ∈ cd_Ru_describe l B, zd_ok l B m_Ru_describe q.1 q.2 := by
  unfold cd_Ru_describe
  refine zd_ac (ok_aload_n (l := l) (B := B) (y := m_Ru_describe) (pc := 0) (k := 0) rfl (zd_dr dc_Ru_describe 0 rfl)) ?_
  refine zd_ac (ok_iload_n (l := l) (B := B) (y := m_Ru_describe) (pc := 1) (k := 1) rfl (zd_dr dc_Ru_describe 1 rfl)) ?_
  refine zd_ac (ok_putf (l := l) (B := B) (y := m_Ru_describe) (pc := 2) hG (C := zR6) (T := zT6) (N := 4) (ci := 6) (k := 1) rfl zl6 zt6 (by decide) (List.mem_of_getElem? (i := 215) (by decide +kernel)) rfl (zd_dr dc_Ru_describe 2 rfl)) ?_
  refine zd_ac (ok_aload_n (l := l) (B := B) (y := m_Ru_describe) (pc := 5) (k := 0) rfl (zd_dr dc_Ru_describe 3 rfl)) ?_
  refine zd_ac (ok_iload_n (l := l) (B := B) (y := m_Ru_describe) (pc := 6) (k := 2) rfl (zd_dr dc_Ru_describe 4 rfl)) ?_
  refine zd_ac (ok_putf (l := l) (B := B) (y := m_Ru_describe) (pc := 7) hG (C := zR6) (T := zT6) (N := 4) (ci := 6) (k := 2) rfl zl6 zt6 (by decide) (List.mem_of_getElem? (i := 218) (by decide +kernel)) rfl (zd_dr dc_Ru_describe 5 rfl)) ?_
  refine zd_ac (ok_aload_n (l := l) (B := B) (y := m_Ru_describe) (pc := 10) (k := 0) rfl (zd_dr dc_Ru_describe 6 rfl)) ?_
  refine zd_ac (ok_iconst (l := l) (B := B) (y := m_Ru_describe) (pc := 11) (n := (0)) (zd_dr dc_Ru_describe 7 rfl) rfl) ?_
  refine zd_ac (ok_putf (l := l) (B := B) (y := m_Ru_describe) (pc := 12) hG (C := zR6) (T := zT6) (N := 4) (ci := 6) (k := 3) rfl zl6 zt6 (by decide) (List.mem_of_getElem? (i := 221) (by decide +kernel)) rfl (zd_dr dc_Ru_describe 8 rfl)) ?_
  refine zd_ac (ok_vret (l := l) (B := B) (y := m_Ru_describe) (pc := 15) rfl (zd_dr dc_Ru_describe 9 rfl)) ?_
  exact zd_an
def dl_Ru_take : List (Nat × Instr × Nat) := [(0, .aload_n 0, 1), (1, .getfield 14, 3), (4, .aload_n 1, 1), (5, .getfield 31, 3), (8, .invokevirtual 34, 3), (11, .aload_n 0, 1), (12, .aload_n 1, 1), (13, .getfield 38, 3), (16, .aload_n 1, 1), (17, .getfield 39, 3), (20, .invokevirtual 40, 3), (23, .return_, 1)]
theorem dc_Ru_take : ∀ q ∈ dl_Ru_take, decode (zd_yb m_Ru_take) q.1 = .ok q.2 := by decide +kernel
def cd_Ru_take (l : Launch) (B : zd_B) : List (Nat × zd_S) := [(0, oc_aload 0 1), (1, oc_getf B 6 0 4), (4, oc_aload 1 5), (5, oc_getf B 1 0 8), (8, oc_callv l B 4 m_Na_copy 1 11), (11, oc_aload 0 12), (12, oc_aload 1 13), (13, oc_getf B 1 1 16), (16, oc_aload 1 17), (17, oc_getf B 1 2 20), (20, oc_callv l B 6 m_Ru_describe 2 23), (23, oc_vret)]
set_option maxRecDepth 20000 in
theorem ok_Ru_take {l : Launch} {B : zd_B} (hG : zd_G B) (hl : l.stackTraces = false) : ∀ q ∈ cd_Ru_take l B, zd_ok l B m_Ru_take q.1 q.2 := by
  unfold cd_Ru_take
  refine zd_ac (ok_aload_n (l := l) (B := B) (y := m_Ru_take) (pc := 0) (k := 0) rfl (zd_dr dc_Ru_take 0 rfl)) ?_
  refine zd_ac (ok_getf (l := l) (B := B) (y := m_Ru_take) (pc := 1) hG (C := zR6) (T := zT6) (N := 4) (ci := 6) (k := 0) rfl zl6 (by decide) (List.mem_of_getElem? (i := 212) (by decide +kernel)) (zd_dr dc_Ru_take 1 rfl)) ?_
  refine zd_ac (ok_aload_n (l := l) (B := B) (y := m_Ru_take) (pc := 4) (k := 1) rfl (zd_dr dc_Ru_take 2 rfl)) ?_
  refine zd_ac (ok_getf (l := l) (B := B) (y := m_Ru_take) (pc := 5) hG (C := zR1) (T := zT1) (N := 3) (ci := 1) (k := 0) rfl zl1 (by decide) (List.mem_of_getElem? (i := 109) (by decide +kernel)) (zd_dr dc_Ru_take 3 rfl)) ?_
  refine zd_ac (ok_callv (l := l) (B := B) (y := m_Ru_take) (pc := 8) hG (ci := 4) rfl cf_Ru_take_Na_copy rfl (List.mem_of_getElem? (i := 530) (by decide +kernel)) (List.mem_of_getElem? (i := 483) (by decide +kernel)) (List.mem_of_getElem? (i := 484) (by decide +kernel)) (zd_dr dc_Ru_take 4 rfl)) ?_
  refine zd_ac (ok_aload_n (l := l) (B := B) (y := m_Ru_take) (pc := 11) (k := 0) rfl (zd_dr dc_Ru_take 5 rfl)) ?_
  refine zd_ac (ok_aload_n (l := l) (B := B) (y := m_Ru_take) (pc := 12) (k := 1) rfl (zd_dr dc_Ru_take 6 rfl)) ?_
  refine zd_ac (ok_getf (l := l) (B := B) (y := m_Ru_take) (pc := 13) hG (C := zR1) (T := zT1) (N := 3) (ci := 1) (k := 1) rfl zl1 (by decide) (List.mem_of_getElem? (i := 112) (by decide +kernel)) (zd_dr dc_Ru_take 7 rfl)) ?_
  refine zd_ac (ok_aload_n (l := l) (B := B) (y := m_Ru_take) (pc := 16) (k := 1) rfl (zd_dr dc_Ru_take 8 rfl)) ?_
  refine zd_ac (ok_getf (l := l) (B := B) (y := m_Ru_take) (pc := 17) hG (C := zR1) (T := zT1) (N := 3) (ci := 1) (k := 2) rfl zl1 (by decide) (List.mem_of_getElem? (i := 116) (by decide +kernel)) (zd_dr dc_Ru_take 9 rfl)) ?_
  refine zd_ac (ok_callv (l := l) (B := B) (y := m_Ru_take) (pc := 20) hG (ci := 6) rfl cf_Ru_take_Ru_describe rfl (List.mem_of_getElem? (i := 531) (by decide +kernel)) (List.mem_of_getElem? (i := 463) (by decide +kernel)) (List.mem_of_getElem? (i := 464) (by decide +kernel)) (zd_dr dc_Ru_take 10 rfl)) ?_
  refine zd_ac (ok_vret (l := l) (B := B) (y := m_Ru_take) (pc := 23) rfl (zd_dr dc_Ru_take 11 rfl)) ?_
  exact zd_an
def dl_Ru_cutTo : List (Nat × Instr × Nat) := [(0, .aload_n 0, 1), (1, .getfield 14, 3), (4, .iload_n 1, 1), (5, .aload_n 0, 1), (6, .getfield 24, 3), (9, .isub, 1), (10, .invokevirtual 44, 3), (13, .istore_n 2, 1), (14, .aload_n 0, 1), (15, .aload_n 0, 1), (16, .getfield 28, 3), (19, .ifCond .ne (7), 3), (22, .iload_n 2, 1), (23, .ifCond .eq (7), 3), (26, .iconst (1), 1), (27, .goto (4), 3), (30, .iconst (0), 1), (31, .putfield 28, 3), (34, .aload_n 0, 1), (35, .iload_n 1, 1), (36, .putfield 24, 3), (39, .return_, 1)]
theorem dc_Ru_cutTo : ∀ q ∈ dl_Ru_cutTo, decode (zd_yb m_Ru_cutTo) q.1 = .ok q.2 := by decide +kernel
def cd_Ru_cutTo (l : Launch) (B : zd_B) : List (Nat × zd_S) := [(0, oc_aload 0 1), (1, oc_getf B 6 0 4), (4, oc_iload 1 5), (5, oc_aload 0 6), (6, oc_getf B 6 2 9), (9, oc_isub 10), (10, oc_callv l B 4 m_Na_move 1 13), (13, oc_istore 2 14), (14, oc_aload 0 15), (15, oc_aload 0 16), (16, oc_getf B 6 3 19), (19, oc_if_ne 26 22), (22, oc_iload 2 23), (23, oc_if_eq 30 26), (26, oc_ci (1) 27), (27, oc_goto 31), (30, oc_ci (0) 31), (31, oc_putf B (zy6 3) 6 3 34), (34, oc_aload 0 35), (35, oc_iload 1 36), (36, oc_putf B (zy6 2) 6 2 39), (39, oc_vret)]
set_option maxRecDepth 20000 in
theorem ok_Ru_cutTo {l : Launch} {B : zd_B} (hG : zd_G B) (hl : l.stackTraces = false) : ∀ q ∈ cd_Ru_cutTo l B, zd_ok l B m_Ru_cutTo q.1 q.2 := by
  unfold cd_Ru_cutTo
  refine zd_ac (ok_aload_n (l := l) (B := B) (y := m_Ru_cutTo) (pc := 0) (k := 0) rfl (zd_dr dc_Ru_cutTo 0 rfl)) ?_
  refine zd_ac (ok_getf (l := l) (B := B) (y := m_Ru_cutTo) (pc := 1) hG (C := zR6) (T := zT6) (N := 4) (ci := 6) (k := 0) rfl zl6 (by decide) (List.mem_of_getElem? (i := 212) (by decide +kernel)) (zd_dr dc_Ru_cutTo 1 rfl)) ?_
  refine zd_ac (ok_iload_n (l := l) (B := B) (y := m_Ru_cutTo) (pc := 4) (k := 1) rfl (zd_dr dc_Ru_cutTo 2 rfl)) ?_
  refine zd_ac (ok_aload_n (l := l) (B := B) (y := m_Ru_cutTo) (pc := 5) (k := 0) rfl (zd_dr dc_Ru_cutTo 3 rfl)) ?_
  refine zd_ac (ok_getf (l := l) (B := B) (y := m_Ru_cutTo) (pc := 6) hG (C := zR6) (T := zT6) (N := 4) (ci := 6) (k := 2) rfl zl6 (by decide) (List.mem_of_getElem? (i := 218) (by decide +kernel)) (zd_dr dc_Ru_cutTo 4 rfl)) ?_
  refine zd_ac (ok_isub (l := l) (B := B) (y := m_Ru_cutTo) (pc := 9) (zd_dr dc_Ru_cutTo 5 rfl)) ?_
  refine zd_ac (ok_callv (l := l) (B := B) (y := m_Ru_cutTo) (pc := 10) hG (ci := 4) rfl cf_Ru_cutTo_Na_move rfl (List.mem_of_getElem? (i := 536) (by decide +kernel)) (List.mem_of_getElem? (i := 537) (by decide +kernel)) (List.mem_of_getElem? (i := 538) (by decide +kernel)) (zd_dr dc_Ru_cutTo 6 rfl)) ?_
  refine zd_ac (ok_istore_n (l := l) (B := B) (y := m_Ru_cutTo) (pc := 13) (k := 2) rfl (zd_dr dc_Ru_cutTo 7 rfl) (by decide)) ?_
  refine zd_ac (ok_aload_n (l := l) (B := B) (y := m_Ru_cutTo) (pc := 14) (k := 0) rfl (zd_dr dc_Ru_cutTo 8 rfl)) ?_
  refine zd_ac (ok_aload_n (l := l) (B := B) (y := m_Ru_cutTo) (pc := 15) (k := 0) rfl (zd_dr dc_Ru_cutTo 9 rfl)) ?_
  refine zd_ac (ok_getf (l := l) (B := B) (y := m_Ru_cutTo) (pc := 16) hG (C := zR6) (T := zT6) (N := 4) (ci := 6) (k := 3) rfl zl6 (by decide) (List.mem_of_getElem? (i := 221) (by decide +kernel)) (zd_dr dc_Ru_cutTo 10 rfl)) ?_
  refine zd_ac (ok_if_ne (l := l) (B := B) (y := m_Ru_cutTo) (pc := 19) (zd_dr dc_Ru_cutTo 11 rfl) (by decide)) ?_
  refine zd_ac (ok_iload_n (l := l) (B := B) (y := m_Ru_cutTo) (pc := 22) (k := 2) rfl (zd_dr dc_Ru_cutTo 12 rfl)) ?_
  refine zd_ac (ok_if_eq (l := l) (B := B) (y := m_Ru_cutTo) (pc := 23) (zd_dr dc_Ru_cutTo 13 rfl) (by decide)) ?_
  refine zd_ac (ok_iconst (l := l) (B := B) (y := m_Ru_cutTo) (pc := 26) (n := (1)) (zd_dr dc_Ru_cutTo 14 rfl) rfl) ?_
  refine zd_ac (ok_goto (l := l) (B := B) (y := m_Ru_cutTo) (pc := 27) (zd_dr dc_Ru_cutTo 15 rfl) (by decide)) ?_
  refine zd_ac (ok_iconst (l := l) (B := B) (y := m_Ru_cutTo) (pc := 30) (n := (0)) (zd_dr dc_Ru_cutTo 16 rfl) rfl) ?_
  refine zd_ac (ok_putf (l := l) (B := B) (y := m_Ru_cutTo) (pc := 31) hG (C := zR6) (T := zT6) (N := 4) (ci := 6) (k := 3) rfl zl6 zt6 (by decide) (List.mem_of_getElem? (i := 221) (by decide +kernel)) rfl (zd_dr dc_Ru_cutTo 17 rfl)) ?_
  refine zd_ac (ok_aload_n (l := l) (B := B) (y := m_Ru_cutTo) (pc := 34) (k := 0) rfl (zd_dr dc_Ru_cutTo 18 rfl)) ?_
  refine zd_ac (ok_iload_n (l := l) (B := B) (y := m_Ru_cutTo) (pc := 35) (k := 1) rfl (zd_dr dc_Ru_cutTo 19 rfl)) ?_
  refine zd_ac (ok_putf (l := l) (B := B) (y := m_Ru_cutTo) (pc := 36) hG (C := zR6) (T := zT6) (N := 4) (ci := 6) (k := 2) rfl zl6 zt6 (by decide) (List.mem_of_getElem? (i := 218) (by decide +kernel)) rfl (zd_dr dc_Ru_cutTo 20 rfl)) ?_
  refine zd_ac (ok_vret (l := l) (B := B) (y := m_Ru_cutTo) (pc := 39) rfl (zd_dr dc_Ru_cutTo 21 rfl)) ?_
  exact zd_an
def dl_Ru_dropGuard : List (Nat × Instr × Nat) := [(0, .aload_n 0, 1), (1, .getfield 14, 3), (4, .iconst (0), 1), (5, .invokevirtual 48, 3), (8, .istore_n 2, 1), (9, .aload_n 0, 1), (10, .getfield 28, 3), (13, .istore_n 3, 1), (14, .aload_n 0, 1), (15, .aload_n 0, 1), (16, .getfield 24, 3), (19, .iconst (1), 1), (20, .isub, 1), (21, .invokevirtual 52, 3), (24, .aload_n 0, 1), (25, .getfield 28, 3), (28, .ifCond .ne (4), 3), (31, .return_, 1), (32, .iload_n 1, 1), (33, .bipush (7), 2), (35, .if_icmp .ne (13), 3), (38, .new 55, 3), (41, .dup, 1), (42, .ldc 57, 2), (44, .invokespecial 59, 3), (47, .athrow, 1), (48, .aload_n 0, 1), (49, .iload_n 1, 1), (50, .iload_n 2, 1), (51, .iload_n 3, 1), (52, .invokevirtual 62, 3), (55, .ifCond .eq (10), 3), (58, .aload_n 0, 1), (59, .getfield 14, 3), (62, .invokevirtual 66, 3), (65, .return_, 1)]
theorem dc_Ru_dropGuard : ∀ q ∈ dl_Ru_dropGuard, decode (zd_yb m_Ru_dropGuard) q.1 = .ok q.2 := by decide +kernel
def cd_Ru_dropGuard (l : Launch) (B : zd_B) : List (Nat × zd_S) := [(0, oc_aload 0 1), (1, oc_getf B 6 0 4), (4, oc_ci (0) 5), (5, oc_callv l B 4 m_Na_digitAt 1 8), (8, oc_istore 2 9), (9, oc_aload 0 10), (10, oc_getf B 6 3 13), (13, oc_istore 3 14), (14, oc_aload 0 15), (15, oc_aload 0 16), (16, oc_getf B 6 2 19), (19, oc_ci (1) 20), (20, oc_isub 21), (21, oc_callv l B 6 m_Ru_cutTo 1 24), (24, oc_aload 0 25), (25, oc_getf B 6 3 28), (28, oc_if_ne 32 31), (31, oc_vret), (32, oc_iload 1 33), (33, oc_ci (7) 35), (35, oc_icmp_ne 48 38), (38, oc_throw B 11), (48, oc_aload 0 49), (49, oc_iload 1 50), (50, oc_iload 2 51), (51, oc_iload 3 52), (52, oc_callv l B 6 m_Ru_goesOutwards 3 55), (55, oc_if_eq 65 58), (58, oc_aload 0 59), (59, oc_getf B 6 0 62), (62, oc_callv l B 4 m_Na_increment 0 65), (65, oc_vret)]
set_option maxRecDepth 20000 in
theorem ok_Ru_dropGuard {l : Launch} {B : zd_B} (hG : zd_G B) (hl : l.stackTraces = false) : ∀ q ∈ cd_Ru_dropGuard l B, zd_ok l B m_Ru_dropGuard q.1 q.2 := by
  unfold cd_Ru_dropGuard
  refine zd_ac (ok_aload_n (l := l) (B := B) (y := m_Ru_dropGuard) (pc := 0) (k := 0) rfl (zd_dr dc_Ru_dropGuard 0 rfl)) ?_
  refine zd_ac (ok_getf (l := l) (B := B) (y := m_Ru_dropGuard) (pc := 1) hG (C := zR6) (T := zT6) (N := 4) (ci := 6) (k := 0) rfl zl6 (by decide) (List.mem_of_getElem? (i := 212) (by decide +kernel)) (zd_dr dc_Ru_dropGuard 1 rfl)) ?_
  refine zd_ac (ok_iconst (l := l) (B := B) (y := m_Ru_dropGuard) (pc := 4) (n := (0)) (zd_dr dc_Ru_dropGuard 2 rfl) rfl) ?_
  refine zd_ac (ok_callv (l := l) (B := B) (y := m_Ru_dropGuard) (pc := 5) hG (ci := 4) rfl cf_Ru_dropGuard_Na_digitAt rfl (List.mem_of_getElem? (i := 647) (by decide +kernel)) (List.mem_of_getElem? (i := 648) (by decide +kernel)) (List.mem_of_getElem? (i := 649) (by decide +kernel)) (zd_dr dc_Ru_dropGuard 3 rfl)) ?_
  refine zd_ac (ok_istore_n (l := l) (B := B) (y := m_Ru_dropGuard) (pc := 8) (k := 2) rfl (zd_dr dc_Ru_dropGuard 4 rfl) (by decide)) ?_
  refine zd_ac (ok_aload_n (l := l) (B := B) (y := m_Ru_dropGuard) (pc := 9) (k := 0) rfl (zd_dr dc_Ru_dropGuard 5 rfl)) ?_
  refine zd_ac (ok_getf (l := l) (B := B) (y := m_Ru_dropGuard) (pc := 10) hG (C := zR6) (T := zT6) (N := 4) (ci := 6) (k := 3) rfl zl6 (by decide) (List.mem_of_getElem? (i := 221) (by decide +kernel)) (zd_dr dc_Ru_dropGuard 6 rfl)) ?_
  refine zd_ac (ok_istore_n (l := l) (B := B) (y := m_Ru_dropGuard) (pc := 13) (k := 3) rfl (zd_dr dc_Ru_dropGuard 7 rfl) (by decide)) ?_
  refine zd_ac (ok_aload_n (l := l) (B := B) (y := m_Ru_dropGuard) (pc := 14) (k := 0) rfl (zd_dr dc_Ru_dropGuard 8 rfl)) ?_
  refine zd_ac (ok_aload_n (l := l) (B := B) (y := m_Ru_dropGuard) (pc := 15) (k := 0) rfl (zd_dr dc_Ru_dropGuard 9 rfl)) ?_
  refine zd_ac (ok_getf (l := l) (B := B) (y := m_Ru_dropGuard) (pc := 16) hG (C := zR6) (T := zT6) (N := 4) (ci := 6) (k := 2) rfl zl6 (by decide) (List.mem_of_getElem? (i := 218) (by decide +kernel)) (zd_dr dc_Ru_dropGuard 10 rfl)) ?_
  refine zd_ac (ok_iconst (l := l) (B := B) (y := m_Ru_dropGuard) (pc := 19) (n := (1)) (zd_dr dc_Ru_dropGuard 11 rfl) rfl) ?_
  refine zd_ac (ok_isub (l := l) (B := B) (y := m_Ru_dropGuard) (pc := 20) (zd_dr dc_Ru_dropGuard 12 rfl)) ?_
  refine zd_ac (ok_callv (l := l) (B := B) (y := m_Ru_dropGuard) (pc := 21) hG (ci := 6) rfl cf_Ru_dropGuard_Ru_cutTo rfl (List.mem_of_getElem? (i := 651) (by decide +kernel)) (List.mem_of_getElem? (i := 533) (by decide +kernel)) (List.mem_of_getElem? (i := 534) (by decide +kernel)) (zd_dr dc_Ru_dropGuard 13 rfl)) ?_
  refine zd_ac (ok_aload_n (l := l) (B := B) (y := m_Ru_dropGuard) (pc := 24) (k := 0) rfl (zd_dr dc_Ru_dropGuard 14 rfl)) ?_
  refine zd_ac (ok_getf (l := l) (B := B) (y := m_Ru_dropGuard) (pc := 25) hG (C := zR6) (T := zT6) (N := 4) (ci := 6) (k := 3) rfl zl6 (by decide) (List.mem_of_getElem? (i := 221) (by decide +kernel)) (zd_dr dc_Ru_dropGuard 15 rfl)) ?_
  refine zd_ac (ok_if_ne (l := l) (B := B) (y := m_Ru_dropGuard) (pc := 28) (zd_dr dc_Ru_dropGuard 16 rfl) (by decide)) ?_
  refine zd_ac (ok_vret (l := l) (B := B) (y := m_Ru_dropGuard) (pc := 31) rfl (zd_dr dc_Ru_dropGuard 17 rfl)) ?_
  refine zd_ac (ok_iload_n (l := l) (B := B) (y := m_Ru_dropGuard) (pc := 32) (k := 1) rfl (zd_dr dc_Ru_dropGuard 18 rfl)) ?_
  refine zd_ac (ok_bipush (l := l) (B := B) (y := m_Ru_dropGuard) (pc := 33) (n := (7)) (zd_dr dc_Ru_dropGuard 19 rfl) rfl) ?_
  refine zd_ac (ok_icmp_ne (l := l) (B := B) (y := m_Ru_dropGuard) (pc := 35) (zd_dr dc_Ru_dropGuard 20 rfl) (by decide)) ?_
  refine zd_ac (ok_throw (l := l) (B := B) (y := m_Ru_dropGuard) (pc := 38) hG hl zE11 zx_Ru_55_57_59 rfl (by decide) (by decide) (zd_dr dc_Ru_dropGuard 21 rfl) (zd_dr dc_Ru_dropGuard 22 rfl) (zd_dr dc_Ru_dropGuard 23 rfl) (zd_dr dc_Ru_dropGuard 24 rfl) (zd_dr dc_Ru_dropGuard 25 rfl)) ?_
  refine zd_ac (ok_aload_n (l := l) (B := B) (y := m_Ru_dropGuard) (pc := 48) (k := 0) rfl (zd_dr dc_Ru_dropGuard 26 rfl)) ?_
  refine zd_ac (ok_iload_n (l := l) (B := B) (y := m_Ru_dropGuard) (pc := 49) (k := 1) rfl (zd_dr dc_Ru_dropGuard 27 rfl)) ?_
  refine zd_ac (ok_iload_n (l := l) (B := B) (y := m_Ru_dropGuard) (pc := 50) (k := 2) rfl (zd_dr dc_Ru_dropGuard 28 rfl)) ?_
  refine zd_ac (ok_iload_n (l := l) (B := B) (y := m_Ru_dropGuard) (pc := 51) (k := 3) rfl (zd_dr dc_Ru_dropGuard 29 rfl)) ?_
  refine zd_ac (ok_callv (l := l) (B := B) (y := m_Ru_dropGuard) (pc := 52) hG (ci := 6) rfl cf_Ru_dropGuard_Ru_goesOutwards rfl (List.mem_of_getElem? (i := 655) (by decide +kernel)) (List.mem_of_getElem? (i := 657) (by decide +kernel)) (List.mem_of_getElem? (i := 14) (by decide +kernel)) (zd_dr dc_Ru_dropGuard 30 rfl)) ?_
  refine zd_ac (ok_if_eq (l := l) (B := B) (y := m_Ru_dropGuard) (pc := 55) (zd_dr dc_Ru_dropGuard 31 rfl) (by decide)) ?_
  refine zd_ac (ok_aload_n (l := l) (B := B) (y := m_Ru_dropGuard) (pc := 58) (k := 0) rfl (zd_dr dc_Ru_dropGuard 32 rfl)) ?_
  refine zd_ac (ok_getf (l := l) (B := B) (y := m_Ru_dropGuard) (pc := 59) hG (C := zR6) (T := zT6) (N := 4) (ci := 6) (k := 0) rfl zl6 (by decide) (List.mem_of_getElem? (i := 212) (by decide +kernel)) (zd_dr dc_Ru_dropGuard 33 rfl)) ?_
  refine zd_ac (ok_callv (l := l) (B := B) (y := m_Ru_dropGuard) (pc := 62) hG (ci := 4) rfl cf_Ru_dropGuard_Na_increment rfl (List.mem_of_getElem? (i := 659) (by decide +kernel)) (List.mem_of_getElem? (i := 660) (by decide +kernel)) (List.mem_of_getElem? (i := 661) (by decide +kernel)) (zd_dr dc_Ru_dropGuard 34 rfl)) ?_
  refine zd_ac (ok_vret (l := l) (B := B) (y := m_Ru_dropGuard) (pc := 65) rfl (zd_dr dc_Ru_dropGuard 35 rfl)) ?_
  exact zd_an
def dl_Ru_goesOutwards : List (Nat × Instr × Nat) := [(0, .iload_n 1, 1), (1, .tableswitch (127) (0) (6) #[(43), (127), (45), (58), (63), (74), (94)], 43), (44, .iconst (1), 1), (45, .ireturn, 1), (46, .aload_n 0, 1), (47, .getfield 20, 3), (50, .ifCond .ne (7), 3), (53, .iconst (1), 1), (54, .goto (4), 3), (57, .iconst (0), 1), (58, .ireturn, 1), (59, .aload_n 0, 1), (60, .getfield 20, 3), (63, .ireturn, 1), (64, .iload_n 2, 1), (65, .iconst (5), 1), (66, .if_icmp .lt (7), 3), (69, .iconst (1), 1), (70, .goto (4), 3), (73, .iconst (0), 1), (74, .ireturn, 1), (75, .iload_n 2, 1), (76, .iconst (5), 1), (77, .if_icmp .gt (12), 3), (80, .iload_n 2, 1), (81, .iconst (5), 1), (82, .if_icmp .ne (11), 3), (85, .iload_n 3, 1), (86, .ifCond .eq (7), 3), (89, .iconst (1), 1), (90, .goto (4), 3), (93, .iconst (0), 1), (94, .ireturn, 1), (95, .iload_n 2, 1), (96, .iconst (5), 1), (97, .if_icmp .gt (25), 3), (100, .iload_n 2, 1), (101, .iconst (5), 1), (102, .if_icmp .ne (24), 3), (105, .iload_n 3, 1), (106, .ifCond .ne (16), 3), (109, .aload_n 0, 1), (110, .getfield 14, 3), (113, .iconst (0), 1), (114, .invokevirtual 48, 3), (117, .iconst (2), 1), (118, .irem, 1), (119, .ifCond .eq (7), 3), (122, .iconst (1), 1), (123, .goto (4), 3), (126, .iconst (0), 1), (127, .ireturn, 1), (128, .iconst (0), 1), (129, .ireturn, 1)]
theorem dc_Ru_goesOutwards : ∀ q ∈ dl_Ru_goesOutwards, decode (zd_yb m_Ru_goesOutwards) q.1 = .ok q.2 := by decide +kernel
def cd_Ru_goesOutwards (l : Launch) (B : zd_B) : List (Nat × zd_S) := [(0, oc_iload 1 1), (1, oc_sw [(0, 44), (1, 128), (2, 46), (3, 59), (4, 64), (5, 75), (6, 95)] 128), (44, oc_ci (1) 45), (45, oc_iret .boolean), (46, oc_aload 0 47), (47, oc_getf B 6 1 50), (50, oc_if_ne 57 53), (53, oc_ci (1) 54), (54, oc_goto 58), (57, oc_ci (0) 58), (58, oc_iret .boolean), (59, oc_aload 0 60), (60, oc_getf B 6 1 63), (63, oc_iret .boolean), (64, oc_iload 2 65), (65, oc_ci (5) 66), (66, oc_icmp_lt 73 69), (69, oc_ci (1) 70), (70, oc_goto 74), (73, oc_ci (0) 74), (74, oc_iret .boolean), (75, oc_iload 2 76), (76, oc_ci (5) 77), (77, oc_icmp_gt 89 80), (80, oc_iload 2 81), (81, oc_ci (5) 82), (82, oc_icmp_ne 93 85), (85, oc_iload 3 86), (86, oc_if_eq 93 89), (89, oc_ci (1) 90), (90, oc_goto 94), (93, oc_ci (0) 94), (94, oc_iret .boolean), (95, oc_iload 2 96), (96, oc_ci (5) 97), (97, oc_icmp_gt 122 100), (100, oc_iload 2 101), (101, oc_ci (5) 102), (102, oc_icmp_ne 126 105), (105, oc_iload 3 106), (106, oc_if_ne 122 109), (109, oc_aload 0 110), (110, oc_getf B 6 0 113), (113, oc_ci (0) 114), (114, oc_callv l B 4 m_Na_digitAt 1 117), (117, oc_ci (2) 118), (118, oc_irem 119), (119, oc_if_eq 126 122), (122, oc_ci (1) 123), (123, oc_goto 127), (126, oc_ci (0) 127), (127, oc_iret .boolean), (128, oc_ci (0) 129), (129, oc_iret .boolean)]
set_option maxRecDepth 20000 in
theorem ok_Ru_goesOutwards {l : Launch} {B : zd_B} (hG : zd_G B) (hl : l.stackTraces = false) : ∀ q ∈ cd_Ru_goesOutwards l B, zd_ok l B m_Ru_goesOutwards q.1 q.2 := by
  unfold cd_Ru_goesOutwards
  refine zd_ac (ok_iload_n (l := l) (B := B) (y := m_Ru_goesOutwards) (pc := 0) (k := 1) rfl (zd_dr dc_Ru_goesOutwards 0 rfl)) ?_
  refine zd_ac (ok_sw (l := l) (B := B) (y := m_Ru_goesOutwards) (pc := 1) (zd_dr dc_Ru_goesOutwards 1 rfl) (by decide) (by unfold zd_swok; decide +kernel)) ?_
  refine zd_ac (ok_iconst (l := l) (B := B) (y := m_Ru_goesOutwards) (pc := 44) (n := (1)) (zd_dr dc_Ru_goesOutwards 2 rfl) rfl) ?_
  refine zd_ac (ok_iret (l := l) (B := B) (y := m_Ru_goesOutwards) (pc := 45) rfl (zd_dr dc_Ru_goesOutwards 3 rfl)) ?_
  refine zd_ac (ok_aload_n (l := l) (B := B) (y := m_Ru_goesOutwards) (pc := 46) (k := 0) rfl (zd_dr dc_Ru_goesOutwards 4 rfl)) ?_
  refine zd_ac (ok_getf (l := l) (B := B) (y := m_Ru_goesOutwards) (pc := 47) hG (C := zR6) (T := zT6) (N := 4) (ci := 6) (k := 1) rfl zl6 (by decide) (List.mem_of_getElem? (i := 215) (by decide +kernel)) (zd_dr dc_Ru_goesOutwards 5 rfl)) ?_
  refine zd_ac (ok_if_ne (l := l) (B := B) (y := m_Ru_goesOutwards) (pc := 50) (zd_dr dc_Ru_goesOutwards 6 rfl) (by decide)) ?_
  refine zd_ac (ok_iconst (l := l) (B := B) (y := m_Ru_goesOutwards) (pc := 53) (n := (1)) (zd_dr dc_Ru_goesOutwards 7 rfl) rfl) ?_
  refine zd_ac (ok_goto (l := l) (B := B) (y := m_Ru_goesOutwards) (pc := 54) (zd_dr dc_Ru_goesOutwards 8 rfl) (by decide)) ?_
  refine zd_ac (ok_iconst (l := l) (B := B) (y := m_Ru_goesOutwards) (pc := 57) (n := (0)) (zd_dr dc_Ru_goesOutwards 9 rfl) rfl) ?_
  refine zd_ac (ok_iret (l := l) (B := B) (y := m_Ru_goesOutwards) (pc := 58) rfl (zd_dr dc_Ru_goesOutwards 10 rfl)) ?_
  refine zd_ac (ok_aload_n (l := l) (B := B) (y := m_Ru_goesOutwards) (pc := 59) (k := 0) rfl (zd_dr dc_Ru_goesOutwards 11 rfl)) ?_
  refine zd_ac (ok_getf (l := l) (B := B) (y := m_Ru_goesOutwards) (pc := 60) hG (C := zR6) (T := zT6) (N := 4) (ci := 6) (k := 1) rfl zl6 (by decide) (List.mem_of_getElem? (i := 215) (by decide +kernel)) (zd_dr dc_Ru_goesOutwards 12 rfl)) ?_
  refine zd_ac (ok_iret (l := l) (B := B) (y := m_Ru_goesOutwards) (pc := 63) rfl (zd_dr dc_Ru_goesOutwards 13 rfl)) ?_
  refine zd_ac (ok_iload_n (l := l) (B := B) (y := m_Ru_goesOutwards) (pc := 64) (k := 2) rfl (zd_dr dc_Ru_goesOutwards 14 rfl)) ?_
  refine zd_ac (ok_iconst (l := l) (B := B) (y := m_Ru_goesOutwards) (pc := 65) (n := (5)) (zd_dr dc_Ru_goesOutwards 15 rfl) rfl) ?_
  refine zd_ac (ok_icmp_lt (l := l) (B := B) (y := m_Ru_goesOutwards) (pc := 66) (zd_dr dc_Ru_goesOutwards 16 rfl) (by decide)) ?_
  refine zd_ac (ok_iconst (l := l) (B := B) (y := m_Ru_goesOutwards) (pc := 69) (n := (1)) (zd_dr dc_Ru_goesOutwards 17 rfl) rfl) ?_
  refine zd_ac (ok_goto (l := l) (B := B) (y := m_Ru_goesOutwards) (pc := 70) (zd_dr dc_Ru_goesOutwards 18 rfl) (by decide)) ?_
  refine zd_ac (ok_iconst (l := l) (B := B) (y := m_Ru_goesOutwards) (pc := 73) (n := (0)) (zd_dr dc_Ru_goesOutwards 19 rfl) rfl) ?_
  refine zd_ac (ok_iret (l := l) (B := B) (y := m_Ru_goesOutwards) (pc := 74) rfl (zd_dr dc_Ru_goesOutwards 20 rfl)) ?_
  refine zd_ac (ok_iload_n (l := l) (B := B) (y := m_Ru_goesOutwards) (pc := 75) (k := 2) rfl (zd_dr dc_Ru_goesOutwards 21 rfl)) ?_
  refine zd_ac (ok_iconst (l := l) (B := B) (y := m_Ru_goesOutwards) (pc := 76) (n := (5)) (zd_dr dc_Ru_goesOutwards 22 rfl) rfl) ?_
  refine zd_ac (ok_icmp_gt (l := l) (B := B) (y := m_Ru_goesOutwards) (pc := 77) (zd_dr dc_Ru_goesOutwards 23 rfl) (by decide)) ?_
  refine zd_ac (ok_iload_n (l := l) (B := B) (y := m_Ru_goesOutwards) (pc := 80) (k := 2) rfl (zd_dr dc_Ru_goesOutwards 24 rfl)) ?_
  refine zd_ac (ok_iconst (l := l) (B := B) (y := m_Ru_goesOutwards) (pc := 81) (n := (5)) (zd_dr dc_Ru_goesOutwards 25 rfl) rfl) ?_
  refine zd_ac (ok_icmp_ne (l := l) (B := B) (y := m_Ru_goesOutwards) (pc := 82) (zd_dr dc_Ru_goesOutwards 26 rfl) (by decide)) ?_
  refine zd_ac (ok_iload_n (l := l) (B := B) (y := m_Ru_goesOutwards) (pc := 85) (k := 3) rfl (zd_dr dc_Ru_goesOutwards 27 rfl)) ?_
  refine zd_ac (ok_if_eq (l := l) (B := B) (y := m_Ru_goesOutwards) (pc := 86) (zd_dr dc_Ru_goesOutwards 28 rfl) (by decide)) ?_
  refine zd_ac (ok_iconst (l := l) (B := B) (y := m_Ru_goesOutwards) (pc := 89) (n := (1)) (zd_dr dc_Ru_goesOutwards 29 rfl) rfl) ?_
  refine zd_ac (ok_goto (l := l) (B := B) (y := m_Ru_goesOutwards) (pc := 90) (zd_dr dc_Ru_goesOutwards 30 rfl) (by decide)) ?_
  refine zd_ac (ok_iconst (l := l) (B := B) (y := m_Ru_goesOutwards) (pc := 93) (n := (0)) (zd_dr dc_Ru_goesOutwards 31 rfl) rfl) ?_
  refine zd_ac (ok_iret (l := l) (B := B) (y := m_Ru_goesOutwards) (pc := 94) rfl (zd_dr dc_Ru_goesOutwards 32 rfl)) ?_
  refine zd_ac (ok_iload_n (l := l) (B := B) (y := m_Ru_goesOutwards) (pc := 95) (k := 2) rfl (zd_dr dc_Ru_goesOutwards 33 rfl)) ?_
  refine zd_ac (ok_iconst (l := l) (B := B) (y := m_Ru_goesOutwards) (pc := 96) (n := (5)) (zd_dr dc_Ru_goesOutwards 34 rfl) rfl) ?_
  refine zd_ac (ok_icmp_gt (l := l) (B := B) (y := m_Ru_goesOutwards) (pc := 97) (zd_dr dc_Ru_goesOutwards 35 rfl) (by decide)) ?_
  refine zd_ac (ok_iload_n (l := l) (B := B) (y := m_Ru_goesOutwards) (pc := 100) (k := 2) rfl (zd_dr dc_Ru_goesOutwards 36 rfl)) ?_
  refine zd_ac (ok_iconst (l := l) (B := B) (y := m_Ru_goesOutwards) (pc := 101) (n := (5)) (zd_dr dc_Ru_goesOutwards 37 rfl) rfl) ?_
  refine zd_ac (ok_icmp_ne (l := l) (B := B) (y := m_Ru_goesOutwards) (pc := 102) (zd_dr dc_Ru_goesOutwards 38 rfl) (by decide)) ?_
  refine zd_ac (ok_iload_n (l := l) (B := B) (y := m_Ru_goesOutwards) (pc := 105) (k := 3) rfl (zd_dr dc_Ru_goesOutwards 39 rfl)) ?_
  refine zd_ac (ok_if_ne (l := l) (B := B) (y := m_Ru_goesOutwards) (pc := 106) (zd_dr dc_Ru_goesOutwards 40 rfl) (by decide)) ?_
  refine zd_ac (ok_aload_n (l := l) (B := B) (y := m_Ru_goesOutwards) (pc := 109) (k := 0) rfl (zd_dr dc_Ru_goesOutwards 41 rfl)) ?_
  refine zd_ac (ok_getf (l := l) (B := B) (y := m_Ru_goesOutwards) (pc := 110) hG (C := zR6) (T := zT6) (N := 4) (ci := 6) (k := 0) rfl zl6 (by decide) (List.mem_of_getElem? (i := 212) (by decide +kernel)) (zd_dr dc_Ru_goesOutwards 42 rfl)) ?_
  refine zd_ac (ok_iconst (l := l) (B := B) (y := m_Ru_goesOutwards) (pc := 113) (n := (0)) (zd_dr dc_Ru_goesOutwards 43 rfl) rfl) ?_
  refine zd_ac (ok_callv (l := l) (B := B) (y := m_Ru_goesOutwards) (pc := 114) hG (ci := 4) rfl cf_Ru_goesOutwards_Na_digitAt rfl (List.mem_of_getElem? (i := 647) (by decide +kernel)) (List.mem_of_getElem? (i := 648) (by decide +kernel)) (List.mem_of_getElem? (i := 649) (by decide +kernel)) (zd_dr dc_Ru_goesOutwards 44 rfl)) ?_
  refine zd_ac (ok_iconst (l := l) (B := B) (y := m_Ru_goesOutwards) (pc := 117) (n := (2)) (zd_dr dc_Ru_goesOutwards 45 rfl) rfl) ?_
  refine zd_ac (ok_irem (l := l) (B := B) (y := m_Ru_goesOutwards) (pc := 118) (zd_dr dc_Ru_goesOutwards 46 rfl)) ?_
  refine zd_ac (ok_if_eq (l := l) (B := B) (y := m_Ru_goesOutwards) (pc := 119) (zd_dr dc_Ru_goesOutwards 47 rfl) (by decide)) ?_
  refine zd_ac (ok_iconst (l := l) (B := B) (y := m_Ru_goesOutwards) (pc := 122) (n := (1)) (zd_dr dc_Ru_goesOutwards 48 rfl) rfl) ?_
  refine zd_ac (ok_goto (l := l) (B := B) (y := m_Ru_goesOutwards) (pc := 123) (zd_dr dc_Ru_goesOutwards 49 rfl) (by decide)) ?_
  refine zd_ac (ok_iconst (l := l) (B := B) (y := m_Ru_goesOutwards) (pc := 126) (n := (0)) (zd_dr dc_Ru_goesOutwards 50 rfl) rfl) ?_
  refine zd_ac (ok_iret (l := l) (B := B) (y := m_Ru_goesOutwards) (pc := 127) rfl (zd_dr dc_Ru_goesOutwards 51 rfl)) ?_
  refine zd_ac (ok_iconst (l := l) (B := B) (y := m_Ru_goesOutwards) (pc := 128) (n := (0)) (zd_dr dc_Ru_goesOutwards 52 rfl) rfl) ?_
  refine zd_ac (ok_iret (l := l) (B := B) (y := m_Ru_goesOutwards) (pc := 129) rfl (zd_dr dc_Ru_goesOutwards 53 rfl)) ?_
  exact zd_an
def dl_Ru_fitPrecision : List (Nat × Instr × Nat) := [(0, .aload_n 0, 1), (1, .getfield 14, 3), (4, .invokevirtual 69, 3), (7, .ifCond .eq (16), 3), (10, .aload_n 0, 1), (11, .getfield 28, 3), (14, .ifCond .ne (9), 3), (17, .aload_n 0, 1), (18, .iload_n 2, 1), (19, .putfield 24, 3), (22, .return_, 1), (23, .aload_n 0, 1), (24, .aload_n 0, 1), (25, .getfield 24, 3), (28, .iload_n 1, 1), (29, .iadd, 1), (30, .iconst (1), 1), (31, .iadd, 1), (32, .aload_n 0, 1), (33, .getfield 14, 3), (36, .invokevirtual 73, 3), (39, .isub, 1), (40, .invokevirtual 52, 3), (43, .aload_n 0, 1), (44, .getfield 28, 3), (47, .ifCond .ne (18), 3), (50, .aload_n 0, 1), (51, .getfield 14, 3), (54, .iconst (0), 1), (55, .invokevirtual 48, 3), (58, .ifCond .ne (7), 3), (61, .iconst (1), 1), (62, .goto (4), 3), (65, .iconst (0), 1), (66, .istore 4, 2), (68, .aload_n 0, 1), (69, .iload_n 3, 1), (70, .invokevirtual 77, 3), (73, .iload 4, 2), (75, .ifCond .eq (39), 3), (78, .iconst (0), 1), (79, .aload_n 0, 1), (80, .getfield 24, 3), (83, .iload_n 2, 1), (84, .isub, 1), (85, .invokestatic 80, 3), (88, .istore 5, 2), (90, .aload_n 0, 1), (91, .aload_n 0, 1), (92, .getfield 24, 3), (95, .iload 5, 2), (97, .aload_n 0, 1), (98, .getfield 14, 3), (101, .invokevirtual 86, 3), (104, .invokestatic 89, 3), (107, .isub, 1), (108, .invokevirtual 52, 3), (111, .goto (24), 3), (114, .aload_n 0, 1), (115, .getfield 14, 3), (118, .invokevirtual 73, 3), (121, .iload_n 1, 1), (122, .if_icmp .le (13), 3), (125, .aload_n 0, 1), (126, .aload_n 0, 1), (127, .getfield 24, 3), (130, .iconst (1), 1), (131, .isub, 1), (132, .invokevirtual 52, 3), (135, .return_, 1)]
theorem dc_Ru_fitPrecision : ∀ q ∈ dl_Ru_fitPrecision, decode (zd_yb m_Ru_fitPrecision) q.1 = .ok q.2 := by decide +kernel
def cd_Ru_fitPrecision (l : Launch) (B : zd_B) : List (Nat × zd_S) := [(0, oc_aload 0 1), (1, oc_getf B 6 0 4), (4, oc_callv l B 4 m_Na_isZero 0 7), (7, oc_if_eq 23 10), (10, oc_aload 0 11), (11, oc_getf B 6 3 14), (14, oc_if_ne 23 17), (17, oc_aload 0 18), (18, oc_iload 2 19), (19, oc_putf B (zy6 2) 6 2 22), (22, oc_vret), (23, oc_aload 0 24), (24, oc_aload 0 25), (25, oc_getf B 6 2 28), (28, oc_iload 1 29), (29, oc_iadd 30), (30, oc_ci (1) 31), (31, oc_iadd 32), (32, oc_aload 0 33), (33, oc_getf B 6 0 36), (36, oc_callv l B 4 m_Na_digits 0 39), (39, oc_isub 40), (40, oc_callv l B 6 m_Ru_cutTo 1 43), (43, oc_aload 0 44), (44, oc_getf B 6 3 47), (47, oc_if_ne 65 50), (50, oc_aload 0 51), (51, oc_getf B 6 0 54), (54, oc_ci (0) 55), (55, oc_callv l B 4 m_Na_digitAt 1 58), (58, oc_if_ne 65 61), (61, oc_ci (1) 62), (62, oc_goto 66), (65, oc_ci (0) 66), (66, oc_istore 4 68), (68, oc_aload 0 69), (69, oc_iload 3 70), (70, oc_callv l B 6 m_Ru_dropGuard 1 73), (73, oc_iload 4 75), (75, oc_if_eq 114 78), (78, oc_ci (0) 79), (79, oc_aload 0 80), (80, oc_getf B 6 2 83), (83, oc_iload 2 84), (84, oc_isub 85), (85, oc_calls l B m_Ma_max 2 88), (88, oc_istore 5 90), (90, oc_aload 0 91), (91, oc_aload 0 92), (92, oc_getf B 6 2 95), (95, oc_iload 5 97), (97, oc_aload 0 98), (98, oc_getf B 6 0 101), (101, oc_callv l B 4 m_Na_trailingZeros 0 104), (104, oc_calls l B m_Ma_min 2 107), (107, oc_isub 108), (108, oc_callv l B 6 m_Ru_cutTo 1 111), (111, oc_goto 135), (114, oc_aload 0 115), (115, oc_getf B 6 0 118), (118, oc_callv l B 4 m_Na_digits 0 121), (121, oc_iload 1 122), (122, oc_icmp_le 135 125), (125, oc_aload 0 126), (126, oc_aload 0 127), (127, oc_getf B 6 2 130), (130, oc_ci (1) 131), (131, oc_isub 132), (132, oc_callv l B 6 m_Ru_cutTo 1 135), (135, oc_vret)]
set_option maxRecDepth 20000 in
theorem ok_Ru_fitPrecision {l : Launch} {B : zd_B} (hG : zd_G B) (hl : l.stackTraces = false) : ∀ q ∈ cd_Ru_fitPrecision l B, zd_ok l B m_Ru_fitPrecision q.1 q.2 := by
  unfold cd_Ru_fitPrecision
  refine zd_ac (ok_aload_n (l := l) (B := B) (y := m_Ru_fitPrecision) (pc := 0) (k := 0) rfl (zd_dr dc_Ru_fitPrecision 0 rfl)) ?_
  refine zd_ac (ok_getf (l := l) (B := B) (y := m_Ru_fitPrecision) (pc := 1) hG (C := zR6) (T := zT6) (N := 4) (ci := 6) (k := 0) rfl zl6 (by decide) (List.mem_of_getElem? (i := 212) (by decide +kernel)) (zd_dr dc_Ru_fitPrecision 1 rfl)) ?_
  refine zd_ac (ok_callv (l := l) (B := B) (y := m_Ru_fitPrecision) (pc := 4) hG (ci := 4) rfl cf_Ru_fitPrecision_Na_isZero rfl (List.mem_of_getElem? (i := 679) (by decide +kernel)) (List.mem_of_getElem? (i := 490) (by decide +kernel)) (List.mem_of_getElem? (i := 491) (by decide +kernel)) (zd_dr dc_Ru_fitPrecision 2 rfl)) ?_
  refine zd_ac (ok_if_eq (l := l) (B := B) (y := m_Ru_fitPrecision) (pc := 7) (zd_dr dc_Ru_fitPrecision 3 rfl) (by decide)) ?_
  refine zd_ac (ok_aload_n (l := l) (B := B) (y := m_Ru_fitPrecision) (pc := 10) (k := 0) rfl (zd_dr dc_Ru_fitPrecision 4 rfl)) ?_
  refine zd_ac (ok_getf (l := l) (B := B) (y := m_Ru_fitPrecision) (pc := 11) hG (C := zR6) (T := zT6) (N := 4) (ci := 6) (k := 3) rfl zl6 (by decide) (List.mem_of_getElem? (i := 221) (by decide +kernel)) (zd_dr dc_Ru_fitPrecision 5 rfl)) ?_
  refine zd_ac (ok_if_ne (l := l) (B := B) (y := m_Ru_fitPrecision) (pc := 14) (zd_dr dc_Ru_fitPrecision 6 rfl) (by decide)) ?_
  refine zd_ac (ok_aload_n (l := l) (B := B) (y := m_Ru_fitPrecision) (pc := 17) (k := 0) rfl (zd_dr dc_Ru_fitPrecision 7 rfl)) ?_
  refine zd_ac (ok_iload_n (l := l) (B := B) (y := m_Ru_fitPrecision) (pc := 18) (k := 2) rfl (zd_dr dc_Ru_fitPrecision 8 rfl)) ?_
  refine zd_ac (ok_putf (l := l) (B := B) (y := m_Ru_fitPrecision) (pc := 19) hG (C := zR6) (T := zT6) (N := 4) (ci := 6) (k := 2) rfl zl6 zt6 (by decide) (List.mem_of_getElem? (i := 218) (by decide +kernel)) rfl (zd_dr dc_Ru_fitPrecision 9 rfl)) ?_
  refine zd_ac (ok_vret (l := l) (B := B) (y := m_Ru_fitPrecision) (pc := 22) rfl (zd_dr dc_Ru_fitPrecision 10 rfl)) ?_
  refine zd_ac (ok_aload_n (l := l) (B := B) (y := m_Ru_fitPrecision) (pc := 23) (k := 0) rfl (zd_dr dc_Ru_fitPrecision 11 rfl)) ?_
  refine zd_ac (ok_aload_n (l := l) (B := B) (y := m_Ru_fitPrecision) (pc := 24) (k := 0) rfl (zd_dr dc_Ru_fitPrecision 12 rfl)) ?_
  refine zd_ac (ok_getf (l := l) (B := B) (y := m_Ru_fitPrecision) (pc := 25) hG (C := zR6) (T := zT6) (N := 4) (ci := 6) (k := 2) rfl zl6 (by decide) (List.mem_of_getElem? (i := 218) (by decide +kernel)) (zd_dr dc_Ru_fitPrecision 13 rfl)) ?_
  refine zd_ac (ok_iload_n (l := l) (B := B) (y := m_Ru_fitPrecision) (pc := 28) (k := 1) rfl (zd_dr dc_Ru_fitPrecision 14 rfl)) ?_
  refine zd_ac (ok_iadd (l := l) (B := B) (y := m_Ru_fitPrecision) (pc := 29) (zd_dr dc_Ru_fitPrecision 15 rfl)) ?_
  refine zd_ac (ok_iconst (l := l) (B := B) (y := m_Ru_fitPrecision) (pc := 30) (n := (1)) (zd_dr dc_Ru_fitPrecision 16 rfl) rfl) ?_
  refine zd_ac (ok_iadd (l := l) (B := B) (y := m_Ru_fitPrecision) (pc := 31) (zd_dr dc_Ru_fitPrecision 17 rfl)) ?_
  refine zd_ac (ok_aload_n (l := l) (B := B) (y := m_Ru_fitPrecision) (pc := 32) (k := 0) rfl (zd_dr dc_Ru_fitPrecision 18 rfl)) ?_
  refine zd_ac (ok_getf (l := l) (B := B) (y := m_Ru_fitPrecision) (pc := 33) hG (C := zR6) (T := zT6) (N := 4) (ci := 6) (k := 0) rfl zl6 (by decide) (List.mem_of_getElem? (i := 212) (by decide +kernel)) (zd_dr dc_Ru_fitPrecision 19 rfl)) ?_
  refine zd_ac (ok_callv (l := l) (B := B) (y := m_Ru_fitPrecision) (pc := 36) hG (ci := 4) rfl cf_Ru_fitPrecision_Na_digits rfl (List.mem_of_getElem? (i := 680) (by decide +kernel)) (List.mem_of_getElem? (i := 474) (by decide +kernel)) (List.mem_of_getElem? (i := 475) (by decide +kernel)) (zd_dr dc_Ru_fitPrecision 20 rfl)) ?_
  refine zd_ac (ok_isub (l := l) (B := B) (y := m_Ru_fitPrecision) (pc := 39) (zd_dr dc_Ru_fitPrecision 21 rfl)) ?_
  refine zd_ac (ok_callv (l := l) (B := B) (y := m_Ru_fitPrecision) (pc := 40) hG (ci := 6) rfl cf_Ru_fitPrecision_Ru_cutTo rfl (List.mem_of_getElem? (i := 651) (by decide +kernel)) (List.mem_of_getElem? (i := 533) (by decide +kernel)) (List.mem_of_getElem? (i := 534) (by decide +kernel)) (zd_dr dc_Ru_fitPrecision 22 rfl)) ?_
  refine zd_ac (ok_aload_n (l := l) (B := B) (y := m_Ru_fitPrecision) (pc := 43) (k := 0) rfl (zd_dr dc_Ru_fitPrecision 23 rfl)) ?_
  refine zd_ac (ok_getf (l := l) (B := B) (y := m_Ru_fitPrecision) (pc := 44) hG (C := zR6) (T := zT6) (N := 4) (ci := 6) (k := 3) rfl zl6 (by decide) (List.mem_of_getElem? (i := 221) (by decide +kernel)) (zd_dr dc_Ru_fitPrecision 24 rfl)) ?_
  refine zd_ac (ok_if_ne (l := l) (B := B) (y := m_Ru_fitPrecision) (pc := 47) (zd_dr dc_Ru_fitPrecision 25 rfl) (by decide)) ?_
  refine zd_ac (ok_aload_n (l := l) (B := B) (y := m_Ru_fitPrecision) (pc := 50) (k := 0) rfl (zd_dr dc_Ru_fitPrecision 26 rfl)) ?_
  refine zd_ac (ok_getf (l := l) (B := B) (y := m_Ru_fitPrecision) (pc := 51) hG (C := zR6) (T := zT6) (N := 4) (ci := 6) (k := 0) rfl zl6 (by decide) (List.mem_of_getElem? (i := 212) (by decide +kernel)) (zd_dr dc_Ru_fitPrecision 27 rfl)) ?_
  refine zd_ac (ok_iconst (l := l) (B := B) (y := m_Ru_fitPrecision) (pc := 54) (n := (0)) (zd_dr dc_Ru_fitPrecision 28 rfl) rfl) ?_
  refine zd_ac (ok_callv (l := l) (B := B) (y := m_Ru_fitPrecision) (pc := 55) hG (ci := 4) rfl cf_Ru_fitPrecision_Na_digitAt rfl (List.mem_of_getElem? (i := 647) (by decide +kernel)) (List.mem_of_getElem? (i := 648) (by decide +kernel)) (List.mem_of_getElem? (i := 649) (by decide +kernel)) (zd_dr dc_Ru_fitPrecision 29 rfl)) ?_
  refine zd_ac (ok_if_ne (l := l) (B := B) (y := m_Ru_fitPrecision) (pc := 58) (zd_dr dc_Ru_fitPrecision 30 rfl) (by decide)) ?_
  refine zd_ac (ok_iconst (l := l) (B := B) (y := m_Ru_fitPrecision) (pc := 61) (n := (1)) (zd_dr dc_Ru_fitPrecision 31 rfl) rfl) ?_
  refine zd_ac (ok_goto (l := l) (B := B) (y := m_Ru_fitPrecision) (pc := 62) (zd_dr dc_Ru_fitPrecision 32 rfl) (by decide)) ?_
  refine zd_ac (ok_iconst (l := l) (B := B) (y := m_Ru_fitPrecision) (pc := 65) (n := (0)) (zd_dr dc_Ru_fitPrecision 33 rfl) rfl) ?_
  refine zd_ac (ok_istore (l := l) (B := B) (y := m_Ru_fitPrecision) (pc := 66) (zd_dr dc_Ru_fitPrecision 34 rfl) (by decide)) ?_
  refine zd_ac (ok_aload_n (l := l) (B := B) (y := m_Ru_fitPrecision) (pc := 68) (k := 0) rfl (zd_dr dc_Ru_fitPrecision 35 rfl)) ?_
  refine zd_ac (ok_iload_n (l := l) (B := B) (y := m_Ru_fitPrecision) (pc := 69) (k := 3) rfl (zd_dr dc_Ru_fitPrecision 36 rfl)) ?_
  refine zd_ac (ok_callv (l := l) (B := B) (y := m_Ru_fitPrecision) (pc := 70) hG (ci := 6) rfl cf_Ru_fitPrecision_Ru_dropGuard rfl (List.mem_of_getElem? (i := 681) (by decide +kernel)) (List.mem_of_getElem? (i := 644) (by decide +kernel)) (List.mem_of_getElem? (i := 645) (by decide +kernel)) (zd_dr dc_Ru_fitPrecision 37 rfl)) ?_
  refine zd_ac (ok_iload (l := l) (B := B) (y := m_Ru_fitPrecision) (pc := 73) (zd_dr dc_Ru_fitPrecision 38 rfl)) ?_
  refine zd_ac (ok_if_eq (l := l) (B := B) (y := m_Ru_fitPrecision) (pc := 75) (zd_dr dc_Ru_fitPrecision 39 rfl) (by decide)) ?_
  refine zd_ac (ok_iconst (l := l) (B := B) (y := m_Ru_fitPrecision) (pc := 78) (n := (0)) (zd_dr dc_Ru_fitPrecision 40 rfl) rfl) ?_
  refine zd_ac (ok_aload_n (l := l) (B := B) (y := m_Ru_fitPrecision) (pc := 79) (k := 0) rfl (zd_dr dc_Ru_fitPrecision 41 rfl)) ?_
  refine zd_ac (ok_getf (l := l) (B := B) (y := m_Ru_fitPrecision) (pc := 80) hG (C := zR6) (T := zT6) (N := 4) (ci := 6) (k := 2) rfl zl6 (by decide) (List.mem_of_getElem? (i := 218) (by decide +kernel)) (zd_dr dc_Ru_fitPrecision 42 rfl)) ?_
  refine zd_ac (ok_iload_n (l := l) (B := B) (y := m_Ru_fitPrecision) (pc := 83) (k := 2) rfl (zd_dr dc_Ru_fitPrecision 43 rfl)) ?_
  refine zd_ac (ok_isub (l := l) (B := B) (y := m_Ru_fitPrecision) (pc := 84) (zd_dr dc_Ru_fitPrecision 44 rfl)) ?_
  refine zd_ac (ok_calls (l := l) (B := B) (y := m_Ru_fitPrecision) (pc := 85) hG cf_Ru_fitPrecision_Ma_max rfl (List.mem_of_getElem? (i := 682) (by decide +kernel)) (List.mem_of_getElem? (i := 524) (by decide +kernel)) (List.mem_of_getElem? (i := 72) (by decide +kernel)) (zd_dr dc_Ru_fitPrecision 45 rfl)) ?_
  refine zd_ac (ok_istore (l := l) (B := B) (y := m_Ru_fitPrecision) (pc := 88) (zd_dr dc_Ru_fitPrecision 46 rfl) (by decide)) ?_
  refine zd_ac (ok_aload_n (l := l) (B := B) (y := m_Ru_fitPrecision) (pc := 90) (k := 0) rfl (zd_dr dc_Ru_fitPrecision 47 rfl)) ?_
  refine zd_ac (ok_aload_n (l := l) (B := B) (y := m_Ru_fitPrecision) (pc := 91) (k := 0) rfl (zd_dr dc_Ru_fitPrecision 48 rfl)) ?_
  refine zd_ac (ok_getf (l := l) (B := B) (y := m_Ru_fitPrecision) (pc := 92) hG (C := zR6) (T := zT6) (N := 4) (ci := 6) (k := 2) rfl zl6 (by decide) (List.mem_of_getElem? (i := 218) (by decide +kernel)) (zd_dr dc_Ru_fitPrecision 49 rfl)) ?_
  refine zd_ac (ok_iload (l := l) (B := B) (y := m_Ru_fitPrecision) (pc := 95) (zd_dr dc_Ru_fitPrecision 50 rfl)) ?_
  refine zd_ac (ok_aload_n (l := l) (B := B) (y := m_Ru_fitPrecision) (pc := 97) (k := 0) rfl (zd_dr dc_Ru_fitPrecision 51 rfl)) ?_
  refine zd_ac (ok_getf (l := l) (B := B) (y := m_Ru_fitPrecision) (pc := 98) hG (C := zR6) (T := zT6) (N := 4) (ci := 6) (k := 0) rfl zl6 (by decide) (List.mem_of_getElem? (i := 212) (by decide +kernel)) (zd_dr dc_Ru_fitPrecision 52 rfl)) ?_
  refine zd_ac (ok_callv (l := l) (B := B) (y := m_Ru_fitPrecision) (pc := 101) hG (ci := 4) rfl cf_Ru_fitPrecision_Na_trailingZeros rfl (List.mem_of_getElem? (i := 683) (by decide +kernel)) (List.mem_of_getElem? (i := 684) (by decide +kernel)) (List.mem_of_getElem? (i := 685) (by decide +kernel)) (zd_dr dc_Ru_fitPrecision 53 rfl)) ?_
  refine zd_ac (ok_calls (l := l) (B := B) (y := m_Ru_fitPrecision) (pc := 104) hG cf_Ru_fitPrecision_Ma_min rfl (List.mem_of_getElem? (i := 687) (by decide +kernel)) (List.mem_of_getElem? (i := 688) (by decide +kernel)) (List.mem_of_getElem? (i := 72) (by decide +kernel)) (zd_dr dc_Ru_fitPrecision 54 rfl)) ?_
  refine zd_ac (ok_isub (l := l) (B := B) (y := m_Ru_fitPrecision) (pc := 107) (zd_dr dc_Ru_fitPrecision 55 rfl)) ?_
  refine zd_ac (ok_callv (l := l) (B := B) (y := m_Ru_fitPrecision) (pc := 108) hG (ci := 6) rfl cf_Ru_fitPrecision_Ru_cutTo rfl (List.mem_of_getElem? (i := 651) (by decide +kernel)) (List.mem_of_getElem? (i := 533) (by decide +kernel)) (List.mem_of_getElem? (i := 534) (by decide +kernel)) (zd_dr dc_Ru_fitPrecision 56 rfl)) ?_
  refine zd_ac (ok_goto (l := l) (B := B) (y := m_Ru_fitPrecision) (pc := 111) (zd_dr dc_Ru_fitPrecision 57 rfl) (by decide)) ?_
  refine zd_ac (ok_aload_n (l := l) (B := B) (y := m_Ru_fitPrecision) (pc := 114) (k := 0) rfl (zd_dr dc_Ru_fitPrecision 58 rfl)) ?_
  refine zd_ac (ok_getf (l := l) (B := B) (y := m_Ru_fitPrecision) (pc := 115) hG (C := zR6) (T := zT6) (N := 4) (ci := 6) (k := 0) rfl zl6 (by decide) (List.mem_of_getElem? (i := 212) (by decide +kernel)) (zd_dr dc_Ru_fitPrecision 59 rfl)) ?_
  refine zd_ac (ok_callv (l := l) (B := B) (y := m_Ru_fitPrecision) (pc := 118) hG (ci := 4) rfl cf_Ru_fitPrecision_Na_digits rfl (List.mem_of_getElem? (i := 680) (by decide +kernel)) (List.mem_of_getElem? (i := 474) (by decide +kernel)) (List.mem_of_getElem? (i := 475) (by decide +kernel)) (zd_dr dc_Ru_fitPrecision 60 rfl)) ?_
  refine zd_ac (ok_iload_n (l := l) (B := B) (y := m_Ru_fitPrecision) (pc := 121) (k := 1) rfl (zd_dr dc_Ru_fitPrecision 61 rfl)) ?_
  refine zd_ac (ok_icmp_le (l := l) (B := B) (y := m_Ru_fitPrecision) (pc := 122) (zd_dr dc_Ru_fitPrecision 62 rfl) (by decide)) ?_
  refine zd_ac (ok_aload_n (l := l) (B := B) (y := m_Ru_fitPrecision) (pc := 125) (k := 0) rfl (zd_dr dc_Ru_fitPrecision 63 rfl)) ?_
  refine zd_ac (ok_aload_n (l := l) (B := B) (y := m_Ru_fitPrecision) (pc := 126) (k := 0) rfl (zd_dr dc_Ru_fitPrecision 64 rfl)) ?_
  refine zd_ac (ok_getf (l := l) (B := B) (y := m_Ru_fitPrecision) (pc := 127) hG (C := zR6) (T := zT6) (N := 4) (ci := 6) (k := 2) rfl zl6 (by decide) (List.mem_of_getElem? (i := 218) (by decide +kernel)) (zd_dr dc_Ru_fitPrecision 65 rfl)) ?_
  refine zd_ac (ok_iconst (l := l) (B := B) (y := m_Ru_fitPrecision) (pc := 130) (n := (1)) (zd_dr dc_Ru_fitPrecision 66 rfl) rfl) ?_
  refine zd_ac (ok_isub (l := l) (B := B) (y := m_Ru_fitPrecision) (pc := 131) (zd_dr dc_Ru_fitPrecision 67 rfl)) ?_
  refine zd_ac (ok_callv (l := l) (B := B) (y := m_Ru_fitPrecision) (pc := 132) hG (ci := 6) rfl cf_Ru_fitPrecision_Ru_cutTo rfl (List.mem_of_getElem? (i := 651) (by decide +kernel)) (List.mem_of_getElem? (i := 533) (by decide +kernel)) (List.mem_of_getElem? (i := 534) (by decide +kernel)) (zd_dr dc_Ru_fitPrecision 68 rfl)) ?_
  refine zd_ac (ok_vret (l := l) (B := B) (y := m_Ru_fitPrecision) (pc := 135) rfl (zd_dr dc_Ru_fitPrecision 69 rfl)) ?_
  exact zd_an

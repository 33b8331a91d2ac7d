/-! written by gencode.py: code of Text, and of one method of Draft -/
theorem cf_Dr_fill_Na_openDigits : zd_cf m_Dr_fill m_Na_openDigits 1 := ⟨(List.mem_of_getElem? (i := 440) (by decide +kernel)), by decide +kernel, by decide, by decide, ⟨by decide, by decide⟩, by decide +kernel⟩
theorem cf_Dr_fill_Na_setDigit : zd_cf m_Dr_fill m_Na_setDigit 2 := ⟨(List.mem_of_getElem? (i := 451) (by decide +kernel)), by decide +kernel, by decide, by decide, ⟨by decide, by decide⟩, by decide +kernel⟩
theorem cf_Dr_fill_Na_trim : zd_cf m_Dr_fill m_Na_trim 0 := ⟨(List.mem_of_getElem? (i := 457) (by decide +kernel)), by decide +kernel, by decide, by decide, ⟨by decide, by decide⟩, by decide +kernel⟩
theorem cf_Te_appendDigits_Na_digitAt : zd_cf m_Te_appendDigits m_Na_digitAt 1 := ⟨(List.mem_of_getElem? (i := 650) (by decide +kernel)), by decide +kernel, by decide, by decide, ⟨by decide, by decide⟩, by decide +kernel⟩
theorem cf_Te_appendDigits_Na_digits : zd_cf m_Te_appendDigits m_Na_digits 0 := ⟨(List.mem_of_getElem? (i := 476) (by decide +kernel)), by decide +kernel, by decide, by decide, ⟨by decide, by decide⟩, by decide +kernel⟩
theorem cf_Te_appendDigits_Te_append : zd_cf m_Te_appendDigits m_Te_append 1 := ⟨(List.mem_of_getElem? (i := 844) (by decide +kernel)), by decide +kernel, by decide, by decide, ⟨by decide, by decide⟩, by decide +kernel⟩
theorem cf_Te_appendPower_Ma_abs : zd_cf m_Te_appendPower m_Ma_abs 1 := ⟨(List.mem_of_getElem? (i := 836) (by decide +kernel)), by decide +kernel, by decide, by decide, ⟨by decide, by decide⟩, by decide +kernel⟩
theorem cf_Te_appendPower_Te_append : zd_cf m_Te_appendPower m_Te_append 1 := ⟨(List.mem_of_getElem? (i := 844) (by decide +kernel)), by decide +kernel, by decide, by decide, ⟨by decide, by decide⟩, by decide +kernel⟩
theorem cf_Te_appendZeros_Te_append : zd_cf m_Te_appendZeros m_Te_append 1 := ⟨(List.mem_of_getElem? (i := 844) (by decide +kernel)), by decide +kernel, by decide, by decide, ⟨by decide, by decide⟩, by decide +kernel⟩
theorem cf_Te_spell_Ma_abs : zd_cf m_Te_spell m_Ma_abs 1 := ⟨(List.mem_of_getElem? (i := 836) (by decide +kernel)), by decide +kernel, by decide, by decide, ⟨by decide, by decide⟩, by decide +kernel⟩
theorem cf_Te_spell_Ma_floorMod : zd_cf m_Te_spell m_Ma_floorMod 2 := ⟨(List.mem_of_getElem? (i := 871) (by decide +kernel)), by decide +kernel, by decide, by decide, ⟨by decide, by decide⟩, by decide +kernel⟩
theorem cf_Te_spell_Na_digits : zd_cf m_Te_spell m_Na_digits 0 := ⟨(List.mem_of_getElem? (i := 476) (by decide +kernel)), by decide +kernel, by decide, by decide, ⟨by decide, by decide⟩, by decide +kernel⟩
theorem cf_Te_spell_Na_isZero : zd_cf m_Te_spell m_Na_isZero 0 := ⟨(List.mem_of_getElem? (i := 492) (by decide +kernel)), by decide +kernel, by decide, by decide, ⟨by decide, by decide⟩, by decide +kernel⟩
theorem cf_Te_spell_Te_append : zd_cf m_Te_spell m_Te_append 1 := ⟨(List.mem_of_getElem? (i := 844) (by decide +kernel)), by decide +kernel, by decide, by decide, ⟨by decide, by decide⟩, by decide +kernel⟩
theorem cf_Te_spell_Te_appendPower : zd_cf m_Te_spell m_Te_appendPower 1 := ⟨(List.mem_of_getElem? (i := 867) (by decide +kernel)), by decide +kernel, by decide, by decide, ⟨by decide, by decide⟩, by decide +kernel⟩
theorem cf_Te_spell_Te_restart : zd_cf m_Te_spell m_Te_restart 1 := ⟨(List.mem_of_getElem? (i := 840) (by decide +kernel)), by decide +kernel, by decide, by decide, ⟨by decide, by decide⟩, by decide +kernel⟩
theorem cf_Te_spell_Te_spellInteger : zd_cf m_Te_spell m_Te_spellInteger 1 := ⟨(List.mem_of_getElem? (i := 848) (by decide +kernel)), by decide +kernel, by decide, by decide, ⟨by decide, by decide⟩, by decide +kernel⟩
theorem cf_Te_spell_Te_spellPointed : zd_cf m_Te_spell m_Te_spellPointed 2 := ⟨(List.mem_of_getElem? (i := 862) (by decide +kernel)), by decide +kernel, by decide, by decide, ⟨by decide, by decide⟩, by decide +kernel⟩
theorem cf_Te_spell_Te_spellZero : zd_cf m_Te_spell m_Te_spellZero 1 := ⟨(List.mem_of_getElem? (i := 875) (by decide +kernel)), by decide +kernel, by decide, by decide, ⟨by decide, by decide⟩, by decide +kernel⟩
theorem cf_Te_spellInteger_Na_digits : zd_cf m_Te_spellInteger m_Na_digits 0 := ⟨(List.mem_of_getElem? (i := 476) (by decide +kernel)), by decide +kernel, by decide, by decide, ⟨by decide, by decide⟩, by decide +kernel⟩
theorem cf_Te_spellInteger_Na_isZero : zd_cf m_Te_spellInteger m_Na_isZero 0 := ⟨(List.mem_of_getElem? (i := 492) (by decide +kernel)), by decide +kernel, by decide, by decide, ⟨by decide, by decide⟩, by decide +kernel⟩
theorem cf_Te_spellInteger_Te_appendDigits : zd_cf m_Te_spellInteger m_Te_appendDigits 3 := ⟨(List.mem_of_getElem? (i := 852) (by decide +kernel)), by decide +kernel, by decide, by decide, ⟨by decide, by decide⟩, by decide +kernel⟩
theorem cf_Te_spellInteger_Te_appendZeros : zd_cf m_Te_spellInteger m_Te_appendZeros 1 := ⟨(List.mem_of_getElem? (i := 858) (by decide +kernel)), by decide +kernel, by decide, by decide, ⟨by decide, by decide⟩, by decide +kernel⟩
theorem cf_Te_spellPointed_Ma_min : zd_cf m_Te_spellPointed m_Ma_min 2 := ⟨(List.mem_of_getElem? (i := 689) (by decide +kernel)), by decide +kernel, by decide, by decide, ⟨by decide, by decide⟩, by decide +kernel⟩
theorem cf_Te_spellPointed_Na_digits : zd_cf m_Te_spellPointed m_Na_digits 0 := ⟨(List.mem_of_getElem? (i := 476) (by decide +kernel)), by decide +kernel, by decide, by decide, ⟨by decide, by decide⟩, by decide +kernel⟩
theorem cf_Te_spellPointed_Te_append : zd_cf m_Te_spellPointed m_Te_append 1 := ⟨(List.mem_of_getElem? (i := 844) (by decide +kernel)), by decide +kernel, by decide, by decide, ⟨by decide, by decide⟩, by decide +kernel⟩
theorem cf_Te_spellPointed_Te_appendDigits : zd_cf m_Te_spellPointed m_Te_appendDigits 3 := ⟨(List.mem_of_getElem? (i := 852) (by decide +kernel)), by decide +kernel, by decide, by decide, ⟨by decide, by decide⟩, by decide +kernel⟩
theorem cf_Te_spellPointed_Te_appendZeros : zd_cf m_Te_spellPointed m_Te_appendZeros 1 := ⟨(List.mem_of_getElem? (i := 858) (by decide +kernel)), by decide +kernel, by decide, by decide, ⟨by decide, by decide⟩, by decide +kernel⟩
theorem cf_Te_spellZero_Te_append : zd_cf m_Te_spellZero m_Te_append 1 := ⟨(List.mem_of_getElem? (i := 844) (by decide +kernel)), by decide +kernel, by decide, by decide, ⟨by decide, by decide⟩, by decide +kernel⟩
theorem cf_Te_spellZero_Te_appendZeros : zd_cf m_Te_spellZero m_Te_appendZeros 1 := ⟨(List.mem_of_getElem? (i := 858) (by decide +kernel)), by decide +kernel, by decide, by decide, ⟨by decide, by decide⟩, by decide +kernel⟩
def dl_Te_at : List (Nat × Instr × Nat) := [(0, .iload_n 1, 1), (1, .ifCond .lt (11), 3), (4, .iload_n 1, 1), (5, .aload_n 0, 1), (6, .getfield 15, 3), (9, .if_icmp .lt (7), 3), (12, .iconst (-1), 1), (13, .goto (9), 3), (16, .aload_n 0, 1), (17, .getfield 9, 3), (20, .iload_n 1, 1), (21, .caload, 1), (22, .ireturn, 1)]
theorem dc_Te_at : ∀ q ∈ dl_Te_at, decode (zd_yb m_Te_at) q.1 = .ok q.2 := by decide +kernel
def cd_Te_at (l : Launch) (B : zd_B) : List (Nat × zd_S) := [(0, oc_iload 1 1), (1, oc_if_lt 12 4), (4, oc_iload 1 5), (5, oc_aload 0 6), (6, oc_getf B 7 1 9), (9, oc_icmp_lt 16 12), (12, oc_ci (-1) 13), (13, oc_goto 22), (16, oc_aload 0 17), (17, oc_getf B 7 0 20), (20, oc_iload 1 21), (21, oc_caload B 22), (22, oc_iret .int)]
set_option maxRecDepth 20000 in
theorem ok_Te_at {l : Launch} {B : zd_B} (hG : zd_G B) (hl : l.stackTraces = false) : ∀ q ∈ cd_Te_at l B, zd_ok l B m_Te_at q.1 q.2 := by
  unfold cd_Te_at
  refine zd_ac (ok_iload_n (l := l) (B := B) (y := m_Te_at) (pc := 0) (k := 1) rfl (zd_dr dc_Te_at 0 rfl)) ?_
  refine zd_ac (ok_if_lt (l := l) (B := B) (y := m_Te_at) (pc := 1) (zd_dr dc_Te_at 1 rfl) (by decide)) ?_
  refine zd_ac (ok_iload_n (l := l) (B := B) (y := m_Te_at) (pc := 4) (k := 1) rfl (zd_dr dc_Te_at 2 rfl)) ?_
  refine zd_ac (ok_aload_n (l := l) (B := B) (y := m_Te_at) (pc := 5) (k := 0) rfl (zd_dr dc_Te_at 3 rfl)) ?_
  refine zd_ac (ok_getf (l := l) (B := B) (y := m_Te_at) (pc := 6) hG (C := zR7) (T := zT7) (N := 2) (ci := 7) (k := 1) rfl zl7 (by decide) (List.mem_of_getElem? (i := 165) (by decide +kernel)) (zd_dr dc_Te_at 4 rfl)) ?_
  refine zd_ac (ok_icmp_lt (l := l) (B := B) (y := m_Te_at) (pc := 9) (zd_dr dc_Te_at 5 rfl) (by decide)) ?_
  refine zd_ac (ok_iconst (l := l) (B := B) (y := m_Te_at) (pc := 12) (n := (-1)) (zd_dr dc_Te_at 6 rfl) rfl) ?_
  refine zd_ac (ok_goto (l := l) (B := B) (y := m_Te_at) (pc := 13) (zd_dr dc_Te_at 7 rfl) (by decide)) ?_
  refine zd_ac (ok_aload_n (l := l) (B := B) (y := m_Te_at) (pc := 16) (k := 0) rfl (zd_dr dc_Te_at 8 rfl)) ?_
  refine zd_ac (ok_getf (l := l) (B := B) (y := m_Te_at) (pc := 17) hG (C := zR7) (T := zT7) (N := 2) (ci := 7) (k := 0) rfl zl7 (by decide) (List.mem_of_getElem? (i := 164) (by decide +kernel)) (zd_dr dc_Te_at 9 rfl)) ?_
  refine zd_ac (ok_iload_n (l := l) (B := B) (y := m_Te_at) (pc := 20) (k := 1) rfl (zd_dr dc_Te_at 10 rfl)) ?_
  refine zd_ac (ok_caload (l := l) (B := B) (y := m_Te_at) (pc := 21) hG (zd_dr dc_Te_at 11 rfl)) ?_
  refine zd_ac (ok_iret (l := l) (B := B) (y := m_Te_at) (pc := 22) rfl (zd_dr dc_Te_at 12 rfl)) ?_
  exact zd_an
def dl_Te_spell : List (Nat × Instr × Nat) := [(0, .aload_n 1, 1), (1, .getfield 19, 3), (4, .invokevirtual 25, 3), (7, .istore_n 3, 1), (8, .iload_n 3, 1), (9, .iconst (1), 1), (10, .isub, 1), (11, .aload_n 1, 1), (12, .getfield 31, 3), (15, .isub, 1), (16, .istore 4, 2), (18, .aload_n 0, 1), (19, .iload_n 3, 1), (20, .aload_n 1, 1), (21, .getfield 31, 3), (24, .invokestatic 34, 3), (27, .iadd, 1), (28, .invokevirtual 40, 3), (31, .aload_n 1, 1), (32, .getfield 44, 3), (35, .ifCond .eq (9), 3), (38, .aload_n 0, 1), (39, .bipush (45), 2), (41, .invokevirtual 48, 3), (44, .iload_n 2, 1), (45, .iconst (1), 1), (46, .if_icmp .ne (18), 3), (49, .aload_n 1, 1), (50, .getfield 31, 3), (53, .ifCond .gt (11), 3), (56, .aload_n 0, 1), (57, .aload_n 1, 1), (58, .invokevirtual 52, 3), (61, .goto (134), 3), (64, .iload_n 2, 1), (65, .iconst (1), 1), (66, .if_icmp .eq (24), 3), (69, .aload_n 1, 1), (70, .getfield 31, 3), (73, .ifCond .eq (17), 3), (76, .aload_n 1, 1), (77, .getfield 31, 3), (80, .ifCond .le (27), 3), (83, .iload 4, 2), (85, .bipush (-6), 2), (87, .if_icmp .lt (20), 3), (90, .aload_n 0, 1), (91, .aload_n 1, 1), (92, .getfield 19, 3), (95, .iload_n 3, 1), (96, .aload_n 1, 1), (97, .getfield 31, 3), (100, .isub, 1), (101, .invokevirtual 56, 3), (104, .goto (91), 3), (107, .iload_n 2, 1), (108, .ifCond .ne (21), 3), (111, .aload_n 0, 1), (112, .aload_n 1, 1), (113, .getfield 19, 3), (116, .iconst (1), 1), (117, .invokevirtual 56, 3), (120, .aload_n 0, 1), (121, .iload 4, 2), (123, .invokevirtual 60, 3), (126, .goto (69), 3), (129, .aload_n 1, 1), (130, .getfield 19, 3), (133, .invokevirtual 63, 3), (136, .ifCond .eq (30), 3), (139, .iload 4, 2), (141, .ineg, 1), (142, .iconst (3), 1), (143, .invokestatic 67, 3), (146, .istore 5, 2), (148, .aload_n 0, 1), (149, .iload 5, 2), (151, .invokevirtual 71, 3), (154, .aload_n 0, 1), (155, .iload 4, 2), (157, .iload 5, 2), (159, .iadd, 1), (160, .invokevirtual 60, 3), (163, .goto (32), 3), (166, .iload 4, 2), (168, .iconst (3), 1), (169, .invokestatic 67, 3), (172, .istore 5, 2), (174, .aload_n 0, 1), (175, .aload_n 1, 1), (176, .getfield 19, 3), (179, .iload 5, 2), (181, .iconst (1), 1), (182, .iadd, 1), (183, .invokevirtual 56, 3), (186, .aload_n 0, 1), (187, .iload 4, 2), (189, .iload 5, 2), (191, .isub, 1), (192, .invokevirtual 60, 3), (195, .aload_n 0, 1), (196, .getfield 15, 3), (199, .ireturn, 1)]
theorem dc_Te_spell : ∀ q ∈ dl_Te_spell, decode (zd_yb m_Te_spell) q.1 = .ok q.2 := by decide +kernel
def cd_Te_spell (l : Launch) (B : zd_B) : List (Nat × zd_S) := [(0, oc_aload 1 1), (1, oc_getf B 1 0 4), (4, oc_callv l B 4 m_Na_digits 0 7), (7, oc_istore 3 8), (8, oc_iload 3 9), (9, oc_ci (1) 10), (10, oc_isub 11), (11, oc_aload 1 12), (12, oc_getf B 1 2 15), (15, oc_isub 16), (16, oc_istore 4 18), (18, oc_aload 0 19), (19, oc_iload 3 20), (20, oc_aload 1 21), (21, oc_getf B 1 2 24), (24, oc_calls l B m_Ma_abs 1 27), (27, oc_iadd 28), (28, oc_callv l B 7 m_Te_restart 1 31), (31, oc_aload 1 32), (32, oc_getf B 1 1 35), (35, oc_if_eq 44 38), (38, oc_aload 0 39), (39, oc_ci (45) 41), (41, oc_callv l B 7 m_Te_append 1 44), (44, oc_iload 2 45), (45, oc_ci (1) 46), (46, oc_icmp_ne 64 49), (49, oc_aload 1 50), (50, oc_getf B 1 2 53), (53, oc_if_gt 64 56), (56, oc_aload 0 57), (57, oc_aload 1 58), (58, oc_callv l B 7 m_Te_spellInteger 1 61), (61, oc_goto 195), (64, oc_iload 2 65), (65, oc_ci (1) 66), (66, oc_icmp_eq 90 69), (69, oc_aload 1 70), (70, oc_getf B 1 2 73), (73, oc_if_eq 90 76), (76, oc_aload 1 77), (77, oc_getf B 1 2 80), (80, oc_if_le 107 83), (83, oc_iload 4 85), (85, oc_ci (-6) 87), (87, oc_icmp_lt 107 90), (90, oc_aload 0 91), (91, oc_aload 1 92), (92, oc_getf B 1 0 95), (95, oc_iload 3 96), (96, oc_aload 1 97), (97, oc_getf B 1 2 100), (100, oc_isub 101), (101, oc_callv l B 7 m_Te_spellPointed 2 104), (104, oc_goto 195), (107, oc_iload 2 108), (108, oc_if_ne 129 111), (111, oc_aload 0 112), (112, oc_aload 1 113), (113, oc_getf B 1 0 116), (116, oc_ci (1) 117), (117, oc_callv l B 7 m_Te_spellPointed 2 120), (120, oc_aload 0 121), (121, oc_iload 4 123), (123, oc_callv l B 7 m_Te_appendPower 1 126), (126, oc_goto 195), (129, oc_aload 1 130), (130, oc_getf B 1 0 133), (133, oc_callv l B 4 m_Na_isZero 0 136), (136, oc_if_eq 166 139), (139, oc_iload 4 141), (141, oc_ineg 142), (142, oc_ci (3) 143), (143, oc_calls l B m_Ma_floorMod 2 146), (146, oc_istore 5 148), (148, oc_aload 0 149), (149, oc_iload 5 151), (151, oc_callv l B 7 m_Te_spellZero 1 154), (154, oc_aload 0 155), (155, oc_iload 4 157), (157, oc_iload 5 159), (159, oc_iadd 160), (160, oc_callv l B 7 m_Te_appendPower 1 163), (163, oc_goto 195), (166, oc_iload 4 168), (168, oc_ci (3) 169), (169, oc_calls l B m_Ma_floorMod 2 172), (172, oc_istore 5 174), (174, oc_aload 0 175), (175, oc_aload 1 176), (176, oc_getf B 1 0 179), (179, oc_iload 5 181), (181, oc_ci (1) 182), (182, oc_iadd 183), (183, oc_callv l B 7 m_Te_spellPointed 2 186), (186, oc_aload 0 187), (187, oc_iload 4 189), (189, oc_iload 5 191), (191, oc_isub 192), (192, oc_callv l B 7 m_Te_appendPower 1 195), (195, oc_aload 0 196), (196, oc_getf B 7 1 199), (199, oc_iret .int)]
set_option maxRecDepth 20000 in
theorem ok_Te_spell {l : Launch} {B : zd_B} (hG : zd_G B) (hl : l.stackTraces = false) : ∀ q ∈ cd_Te_spell l B, zd_ok l B m_Te_spell q.1 q.2 := by
  unfold cd_Te_spell
  refine zd_ac (ok_aload_n (l := l) (B := B) (y := m_Te_spell) (pc := 0) (k := 1) rfl (zd_dr dc_Te_spell 0 rfl)) ?_
  refine zd_ac (ok_getf (l := l) (B := B) (y := m_Te_spell) (pc := 1) hG (C := zR1) (T := zT1) (N := 3) (ci := 1) (k := 0) rfl zl1 (by decide) (List.mem_of_getElem? (i := 108) (by decide +kernel)) (zd_dr dc_Te_spell 1 rfl)) ?_
  refine zd_ac (ok_callv (l := l) (B := B) (y := m_Te_spell) (pc := 4) hG (ci := 4) rfl cf_Te_spell_Na_digits rfl (List.mem_of_getElem? (i := 833) (by decide +kernel)) (List.mem_of_getElem? (i := 474) (by decide +kernel)) (List.mem_of_getElem? (i := 475) (by decide +kernel)) (zd_dr dc_Te_spell 2 rfl)) ?_
  refine zd_ac (ok_istore_n (l := l) (B := B) (y := m_Te_spell) (pc := 7) (k := 3) rfl (zd_dr dc_Te_spell 3 rfl) (by decide)) ?_
  refine zd_ac (ok_iload_n (l := l) (B := B) (y := m_Te_spell) (pc := 8) (k := 3) rfl (zd_dr dc_Te_spell 4 rfl)) ?_
  refine zd_ac (ok_iconst (l := l) (B := B) (y := m_Te_spell) (pc := 9) (n := (1)) (zd_dr dc_Te_spell 5 rfl) rfl) ?_
  refine zd_ac (ok_isub (l := l) (B := B) (y := m_Te_spell) (pc := 10) (zd_dr dc_Te_spell 6 rfl)) ?_
  refine zd_ac (ok_aload_n (l := l) (B := B) (y := m_Te_spell) (pc := 11) (k := 1) rfl (zd_dr dc_Te_spell 7 rfl)) ?_
  refine zd_ac (ok_getf (l := l) (B := B) (y := m_Te_spell) (pc := 12) hG (C := zR1) (T := zT1) (N := 3) (ci := 1) (k := 2) rfl zl1 (by decide) (List.mem_of_getElem? (i := 115) (by decide +kernel)) (zd_dr dc_Te_spell 8 rfl)) ?_
  refine zd_ac (ok_isub (l := l) (B := B) (y := m_Te_spell) (pc := 15) (zd_dr dc_Te_spell 9 rfl)) ?_
  refine zd_ac (ok_istore (l := l) (B := B) (y := m_Te_spell) (pc := 16) (zd_dr dc_Te_spell 10 rfl) (by decide)) ?_
  refine zd_ac (ok_aload_n (l := l) (B := B) (y := m_Te_spell) (pc := 18) (k := 0) rfl (zd_dr dc_Te_spell 11 rfl)) ?_
  refine zd_ac (ok_iload_n (l := l) (B := B) (y := m_Te_spell) (pc := 19) (k := 3) rfl (zd_dr dc_Te_spell 12 rfl)) ?_
  refine zd_ac (ok_aload_n (l := l) (B := B) (y := m_Te_spell) (pc := 20) (k := 1) rfl (zd_dr dc_Te_spell 13 rfl)) ?_
  refine zd_ac (ok_getf (l := l) (B := B) (y := m_Te_spell) (pc := 21) hG (C := zR1) (T := zT1) (N := 3) (ci := 1) (k := 2) rfl zl1 (by decide) (List.mem_of_getElem? (i := 115) (by decide +kernel)) (zd_dr dc_Te_spell 14 rfl)) ?_
  refine zd_ac (ok_calls (l := l) (B := B) (y := m_Te_spell) (pc := 24) hG cf_Te_spell_Ma_abs rfl (List.mem_of_getElem? (i := 834) (by decide +kernel)) (List.mem_of_getElem? (i := 835) (by decide +kernel)) (List.mem_of_getElem? (i := 72) (by decide +kernel)) (zd_dr dc_Te_spell 15 rfl)) ?_
  refine zd_ac (ok_iadd (l := l) (B := B) (y := m_Te_spell) (pc := 27) (zd_dr dc_Te_spell 16 rfl)) ?_
  refine zd_ac (ok_callv (l := l) (B := B) (y := m_Te_spell) (pc := 28) hG (ci := 7) rfl cf_Te_spell_Te_restart rfl (List.mem_of_getElem? (i := 837) (by decide +kernel)) (List.mem_of_getElem? (i := 839) (by decide +kernel)) (List.mem_of_getElem? (i := 19) (by decide +kernel)) (zd_dr dc_Te_spell 17 rfl)) ?_
  refine zd_ac (ok_aload_n (l := l) (B := B) (y := m_Te_spell) (pc := 31) (k := 1) rfl (zd_dr dc_Te_spell 18 rfl)) ?_
  refine zd_ac (ok_getf (l := l) (B := B) (y := m_Te_spell) (pc := 32) hG (C := zR1) (T := zT1) (N := 3) (ci := 1) (k := 1) rfl zl1 (by decide) (List.mem_of_getElem? (i := 113) (by decide +kernel)) (zd_dr dc_Te_spell 19 rfl)) ?_
  refine zd_ac (ok_if_eq (l := l) (B := B) (y := m_Te_spell) (pc := 35) (zd_dr dc_Te_spell 20 rfl) (by decide)) ?_
  refine zd_ac (ok_aload_n (l := l) (B := B) (y := m_Te_spell) (pc := 38) (k := 0) rfl (zd_dr dc_Te_spell 21 rfl)) ?_
  refine zd_ac (ok_bipush (l := l) (B := B) (y := m_Te_spell) (pc := 39) (n := (45)) (zd_dr dc_Te_spell 22 rfl) rfl) ?_
  refine zd_ac (ok_callv (l := l) (B := B) (y := m_Te_spell) (pc := 41) hG (ci := 7) rfl cf_Te_spell_Te_append rfl (List.mem_of_getElem? (i := 841) (by decide +kernel)) (List.mem_of_getElem? (i := 843) (by decide +kernel)) (List.mem_of_getElem? (i := 20) (by decide +kernel)) (zd_dr dc_Te_spell 23 rfl)) ?_
  refine zd_ac (ok_iload_n (l := l) (B := B) (y := m_Te_spell) (pc := 44) (k := 2) rfl (zd_dr dc_Te_spell 24 rfl)) ?_
  refine zd_ac (ok_iconst (l := l) (B := B) (y := m_Te_spell) (pc := 45) (n := (1)) (zd_dr dc_Te_spell 25 rfl) rfl) ?_
  refine zd_ac (ok_icmp_ne (l := l) (B := B) (y := m_Te_spell) (pc := 46) (zd_dr dc_Te_spell 26 rfl) (by decide)) ?_
  refine zd_ac (ok_aload_n (l := l) (B := B) (y := m_Te_spell) (pc := 49) (k := 1) rfl (zd_dr dc_Te_spell 27 rfl)) ?_
  refine zd_ac (ok_getf (l := l) (B := B) (y := m_Te_spell) (pc := 50) hG (C := zR1) (T := zT1) (N := 3) (ci := 1) (k := 2) rfl zl1 (by decide) (List.mem_of_getElem? (i := 115) (by decide +kernel)) (zd_dr dc_Te_spell 28 rfl)) ?_
  refine zd_ac (ok_if_gt (l := l) (B := B) (y := m_Te_spell) (pc := 53) (zd_dr dc_Te_spell 29 rfl) (by decide)) ?_
  refine zd_ac (ok_aload_n (l := l) (B := B) (y := m_Te_spell) (pc := 56) (k := 0) rfl (zd_dr dc_Te_spell 30 rfl)) ?_
  refine zd_ac (ok_aload_n (l := l) (B := B) (y := m_Te_spell) (pc := 57) (k := 1) rfl (zd_dr dc_Te_spell 31 rfl)) ?_
  refine zd_ac (ok_callv (l := l) (B := B) (y := m_Te_spell) (pc := 58) hG (ci := 7) rfl cf_Te_spell_Te_spellInteger rfl (List.mem_of_getElem? (i := 845) (by decide +kernel)) (List.mem_of_getElem? (i := 847) (by decide +kernel)) (List.mem_of_getElem? (i := 21) (by decide +kernel)) (zd_dr dc_Te_spell 32 rfl)) ?_
  refine zd_ac (ok_goto (l := l) (B := B) (y := m_Te_spell) (pc := 61) (zd_dr dc_Te_spell 33 rfl) (by decide)) ?_
  refine zd_ac (ok_iload_n (l := l) (B := B) (y := m_Te_spell) (pc := 64) (k := 2) rfl (zd_dr dc_Te_spell 34 rfl)) ?_
  refine zd_ac (ok_iconst (l := l) (B := B) (y := m_Te_spell) (pc := 65) (n := (1)) (zd_dr dc_Te_spell 35 rfl) rfl) ?_
  refine zd_ac (ok_icmp_eq (l := l) (B := B) (y := m_Te_spell) (pc := 66) (zd_dr dc_Te_spell 36 rfl) (by decide)) ?_
  refine zd_ac (ok_aload_n (l := l) (B := B) (y := m_Te_spell) (pc := 69) (k := 1) rfl (zd_dr dc_Te_spell 37 rfl)) ?_
  refine zd_ac (ok_getf (l := l) (B := B) (y := m_Te_spell) (pc := 70) hG (C := zR1) (T := zT1) (N := 3) (ci := 1) (k := 2) rfl zl1 (by decide) (List.mem_of_getElem? (i := 115) (by decide +kernel)) (zd_dr dc_Te_spell 38 rfl)) ?_
  refine zd_ac (ok_if_eq (l := l) (B := B) (y := m_Te_spell) (pc := 73) (zd_dr dc_Te_spell 39 rfl) (by decide)) ?_
  refine zd_ac (ok_aload_n (l := l) (B := B) (y := m_Te_spell) (pc := 76) (k := 1) rfl (zd_dr dc_Te_spell 40 rfl)) ?_
  refine zd_ac (ok_getf (l := l) (B := B) (y := m_Te_spell) (pc := 77) hG (C := zR1) (T := zT1) (N := 3) (ci := 1) (k := 2) rfl zl1 (by decide) (List.mem_of_getElem? (i := 115) (by decide +kernel)) (zd_dr dc_Te_spell 41 rfl)) ?_
  refine zd_ac (ok_if_le (l := l) (B := B) (y := m_Te_spell) (pc := 80) (zd_dr dc_Te_spell 42 rfl) (by decide)) ?_
  refine zd_ac (ok_iload (l := l) (B := B) (y := m_Te_spell) (pc := 83) (zd_dr dc_Te_spell 43 rfl)) ?_
  refine zd_ac (ok_bipush (l := l) (B := B) (y := m_Te_spell) (pc := 85) (n := (-6)) (zd_dr dc_Te_spell 44 rfl) rfl) ?_
  refine zd_ac (ok_icmp_lt (l := l) (B := B) (y := m_Te_spell) (pc := 87) (zd_dr dc_Te_spell 45 rfl) (by decide)) ?_
  refine zd_ac (ok_aload_n (l := l) (B := B) (y := m_Te_spell) (pc := 90) (k := 0) rfl (zd_dr dc_Te_spell 46 rfl)) ?_
  refine zd_ac (ok_aload_n (l := l) (B := B) (y := m_Te_spell) (pc := 91) (k := 1) rfl (zd_dr dc_Te_spell 47 rfl)) ?_
  refine zd_ac (ok_getf (l := l) (B := B) (y := m_Te_spell) (pc := 92) hG (C := zR1) (T := zT1) (N := 3) (ci := 1) (k := 0) rfl zl1 (by decide) (List.mem_of_getElem? (i := 108) (by decide +kernel)) (zd_dr dc_Te_spell 48 rfl)) ?_
  refine zd_ac (ok_iload_n (l := l) (B := B) (y := m_Te_spell) (pc := 95) (k := 3) rfl (zd_dr dc_Te_spell 49 rfl)) ?_
  refine zd_ac (ok_aload_n (l := l) (B := B) (y := m_Te_spell) (pc := 96) (k := 1) rfl (zd_dr dc_Te_spell 50 rfl)) ?_
  refine zd_ac (ok_getf (l := l) (B := B) (y := m_Te_spell) (pc := 97) hG (C := zR1) (T := zT1) (N := 3) (ci := 1) (k := 2) rfl zl1 (by decide) (List.mem_of_getElem? (i := 115) (by decide +kernel)) (zd_dr dc_Te_spell 51 rfl)) ?_
  refine zd_ac (ok_isub (l := l) (B := B) (y := m_Te_spell) (pc := 100) (zd_dr dc_Te_spell 52 rfl)) ?_
  refine zd_ac (ok_callv (l := l) (B := B) (y := m_Te_spell) (pc := 101) hG (ci := 7) rfl cf_Te_spell_Te_spellPointed rfl (List.mem_of_getElem? (i := 859) (by decide +kernel)) (List.mem_of_getElem? (i := 861) (by decide +kernel)) (List.mem_of_getElem? (i := 24) (by decide +kernel)) (zd_dr dc_Te_spell 53 rfl)) ?_
  refine zd_ac (ok_goto (l := l) (B := B) (y := m_Te_spell) (pc := 104) (zd_dr dc_Te_spell 54 rfl) (by decide)) ?_
  refine zd_ac (ok_iload_n (l := l) (B := B) (y := m_Te_spell) (pc := 107) (k := 2) rfl (zd_dr dc_Te_spell 55 rfl)) ?_
  refine zd_ac (ok_if_ne (l := l) (B := B) (y := m_Te_spell) (pc := 108) (zd_dr dc_Te_spell 56 rfl) (by decide)) ?_
  refine zd_ac (ok_aload_n (l := l) (B := B) (y := m_Te_spell) (pc := 111) (k := 0) rfl (zd_dr dc_Te_spell 57 rfl)) ?_
  refine zd_ac (ok_aload_n (l := l) (B := B) (y := m_Te_spell) (pc := 112) (k := 1) rfl (zd_dr dc_Te_spell 58 rfl)) ?_
  refine zd_ac (ok_getf (l := l) (B := B) (y := m_Te_spell) (pc := 113) hG (C := zR1) (T := zT1) (N := 3) (ci := 1) (k := 0) rfl zl1 (by decide) (List.mem_of_getElem? (i := 108) (by decide +kernel)) (zd_dr dc_Te_spell 59 rfl)) ?_
  refine zd_ac (ok_iconst (l := l) (B := B) (y := m_Te_spell) (pc := 116) (n := (1)) (zd_dr dc_Te_spell 60 rfl) rfl) ?_
  refine zd_ac (ok_callv (l := l) (B := B) (y := m_Te_spell) (pc := 117) hG (ci := 7) rfl cf_Te_spell_Te_spellPointed rfl (List.mem_of_getElem? (i := 859) (by decide +kernel)) (List.mem_of_getElem? (i := 861) (by decide +kernel)) (List.mem_of_getElem? (i := 24) (by decide +kernel)) (zd_dr dc_Te_spell 61 rfl)) ?_
  refine zd_ac (ok_aload_n (l := l) (B := B) (y := m_Te_spell) (pc := 120) (k := 0) rfl (zd_dr dc_Te_spell 62 rfl)) ?_
  refine zd_ac (ok_iload (l := l) (B := B) (y := m_Te_spell) (pc := 121) (zd_dr dc_Te_spell 63 rfl)) ?_
  refine zd_ac (ok_callv (l := l) (B := B) (y := m_Te_spell) (pc := 123) hG (ci := 7) rfl cf_Te_spell_Te_appendPower rfl (List.mem_of_getElem? (i := 864) (by decide +kernel)) (List.mem_of_getElem? (i := 866) (by decide +kernel)) (List.mem_of_getElem? (i := 25) (by decide +kernel)) (zd_dr dc_Te_spell 64 rfl)) ?_
  refine zd_ac (ok_goto (l := l) (B := B) (y := m_Te_spell) (pc := 126) (zd_dr dc_Te_spell 65 rfl) (by decide)) ?_
  refine zd_ac (ok_aload_n (l := l) (B := B) (y := m_Te_spell) (pc := 129) (k := 1) rfl (zd_dr dc_Te_spell 66 rfl)) ?_
  refine zd_ac (ok_getf (l := l) (B := B) (y := m_Te_spell) (pc := 130) hG (C := zR1) (T := zT1) (N := 3) (ci := 1) (k := 0) rfl zl1 (by decide) (List.mem_of_getElem? (i := 108) (by decide +kernel)) (zd_dr dc_Te_spell 67 rfl)) ?_
  refine zd_ac (ok_callv (l := l) (B := B) (y := m_Te_spell) (pc := 133) hG (ci := 4) rfl cf_Te_spell_Na_isZero rfl (List.mem_of_getElem? (i := 854) (by decide +kernel)) (List.mem_of_getElem? (i := 490) (by decide +kernel)) (List.mem_of_getElem? (i := 491) (by decide +kernel)) (zd_dr dc_Te_spell 68 rfl)) ?_
  refine zd_ac (ok_if_eq (l := l) (B := B) (y := m_Te_spell) (pc := 136) (zd_dr dc_Te_spell 69 rfl) (by decide)) ?_
  refine zd_ac (ok_iload (l := l) (B := B) (y := m_Te_spell) (pc := 139) (zd_dr dc_Te_spell 70 rfl)) ?_
  refine zd_ac (ok_ineg (l := l) (B := B) (y := m_Te_spell) (pc := 141) (zd_dr dc_Te_spell 71 rfl)) ?_
  refine zd_ac (ok_iconst (l := l) (B := B) (y := m_Te_spell) (pc := 142) (n := (3)) (zd_dr dc_Te_spell 72 rfl) rfl) ?_
  refine zd_ac (ok_calls (l := l) (B := B) (y := m_Te_spell) (pc := 143) hG cf_Te_spell_Ma_floorMod rfl (List.mem_of_getElem? (i := 869) (by decide +kernel)) (List.mem_of_getElem? (i := 870) (by decide +kernel)) (List.mem_of_getElem? (i := 72) (by decide +kernel)) (zd_dr dc_Te_spell 73 rfl)) ?_
  refine zd_ac (ok_istore (l := l) (B := B) (y := m_Te_spell) (pc := 146) (zd_dr dc_Te_spell 74 rfl) (by decide)) ?_
  refine zd_ac (ok_aload_n (l := l) (B := B) (y := m_Te_spell) (pc := 148) (k := 0) rfl (zd_dr dc_Te_spell 75 rfl)) ?_
  refine zd_ac (ok_iload (l := l) (B := B) (y := m_Te_spell) (pc := 149) (zd_dr dc_Te_spell 76 rfl)) ?_
  refine zd_ac (ok_callv (l := l) (B := B) (y := m_Te_spell) (pc := 151) hG (ci := 7) rfl cf_Te_spell_Te_spellZero rfl (List.mem_of_getElem? (i := 872) (by decide +kernel)) (List.mem_of_getElem? (i := 874) (by decide +kernel)) (List.mem_of_getElem? (i := 26) (by decide +kernel)) (zd_dr dc_Te_spell 77 rfl)) ?_
  refine zd_ac (ok_aload_n (l := l) (B := B) (y := m_Te_spell) (pc := 154) (k := 0) rfl (zd_dr dc_Te_spell 78 rfl)) ?_
  refine zd_ac (ok_iload (l := l) (B := B) (y := m_Te_spell) (pc := 155) (zd_dr dc_Te_spell 79 rfl)) ?_
  refine zd_ac (ok_iload (l := l) (B := B) (y := m_Te_spell) (pc := 157) (zd_dr dc_Te_spell 80 rfl)) ?_
  refine zd_ac (ok_iadd (l := l) (B := B) (y := m_Te_spell) (pc := 159) (zd_dr dc_Te_spell 81 rfl)) ?_
  refine zd_ac (ok_callv (l := l) (B := B) (y := m_Te_spell) (pc := 160) hG (ci := 7) rfl cf_Te_spell_Te_appendPower rfl (List.mem_of_getElem? (i := 864) (by decide +kernel)) (List.mem_of_getElem? (i := 866) (by decide +kernel)) (List.mem_of_getElem? (i := 25) (by decide +kernel)) (zd_dr dc_Te_spell 82 rfl)) ?_
  refine zd_ac (ok_goto (l := l) (B := B) (y := m_Te_spell) (pc := 163) (zd_dr dc_Te_spell 83 rfl) (by decide)) ?_
  refine zd_ac (ok_iload (l := l) (B := B) (y := m_Te_spell) (pc := 166) (zd_dr dc_Te_spell 84 rfl)) ?_
  refine zd_ac (ok_iconst (l := l) (B := B) (y := m_Te_spell) (pc := 168) (n := (3)) (zd_dr dc_Te_spell 85 rfl) rfl) ?_
  refine zd_ac (ok_calls (l := l) (B := B) (y := m_Te_spell) (pc := 169) hG cf_Te_spell_Ma_floorMod rfl (List.mem_of_getElem? (i := 869) (by decide +kernel)) (List.mem_of_getElem? (i := 870) (by decide +kernel)) (List.mem_of_getElem? (i := 72) (by decide +kernel)) (zd_dr dc_Te_spell 86 rfl)) ?_
  refine zd_ac (ok_istore (l := l) (B := B) (y := m_Te_spell) (pc := 172) (zd_dr dc_Te_spell 87 rfl) (by decide)) ?_
  refine zd_ac (ok_aload_n (l := l) (B := B) (y := m_Te_spell) (pc := 174) (k := 0) rfl (zd_dr dc_Te_spell 88 rfl)) ?_
  refine zd_ac (ok_aload_n (l := l) (B := B) (y := m_Te_spell) (pc := 175) (k := 1) rfl (zd_dr dc_Te_spell 89 rfl)) ?_
  refine zd_ac (ok_getf (l := l) (B := B) (y := m_Te_spell) (pc := 176) hG (C := zR1) (T := zT1) (N := 3) (ci := 1) (k := 0) rfl zl1 (by decide) (List.mem_of_getElem? (i := 108) (by decide +kernel)) (zd_dr dc_Te_spell 90 rfl)) ?_
  refine zd_ac (ok_iload (l := l) (B := B) (y := m_Te_spell) (pc := 179) (zd_dr dc_Te_spell 91 rfl)) ?_
  refine zd_ac (ok_iconst (l := l) (B := B) (y := m_Te_spell) (pc := 181) (n := (1)) (zd_dr dc_Te_spell 92 rfl) rfl) ?_
  refine zd_ac (ok_iadd (l := l) (B := B) (y := m_Te_spell) (pc := 182) (zd_dr dc_Te_spell 93 rfl)) ?_
  refine zd_ac (ok_callv (l := l) (B := B) (y := m_Te_spell) (pc := 183) hG (ci := 7) rfl cf_Te_spell_Te_spellPointed rfl (List.mem_of_getElem? (i := 859) (by decide +kernel)) (List.mem_of_getElem? (i := 861) (by decide +kernel)) (List.mem_of_getElem? (i := 24) (by decide +kernel)) (zd_dr dc_Te_spell 94 rfl)) ?_
  refine zd_ac (ok_aload_n (l := l) (B := B) (y := m_Te_spell) (pc := 186) (k := 0) rfl (zd_dr dc_Te_spell 95 rfl)) ?_
  refine zd_ac (ok_iload (l := l) (B := B) (y := m_Te_spell) (pc := 187) (zd_dr dc_Te_spell 96 rfl)) ?_
  refine zd_ac (ok_iload (l := l) (B := B) (y := m_Te_spell) (pc := 189) (zd_dr dc_Te_spell 97 rfl)) ?_
  refine zd_ac (ok_isub (l := l) (B := B) (y := m_Te_spell) (pc := 191) (zd_dr dc_Te_spell 98 rfl)) ?_
  refine zd_ac (ok_callv (l := l) (B := B) (y := m_Te_spell) (pc := 192) hG (ci := 7) rfl cf_Te_spell_Te_appendPower rfl (List.mem_of_getElem? (i := 864) (by decide +kernel)) (List.mem_of_getElem? (i := 866) (by decide +kernel)) (List.mem_of_getElem? (i := 25) (by decide +kernel)) (zd_dr dc_Te_spell 99 rfl)) ?_
  refine zd_ac (ok_aload_n (l := l) (B := B) (y := m_Te_spell) (pc := 195) (k := 0) rfl (zd_dr dc_Te_spell 100 rfl)) ?_
  refine zd_ac (ok_getf (l := l) (B := B) (y := m_Te_spell) (pc := 196) hG (C := zR7) (T := zT7) (N := 2) (ci := 7) (k := 1) rfl zl7 (by decide) (List.mem_of_getElem? (i := 165) (by decide +kernel)) (zd_dr dc_Te_spell 101 rfl)) ?_
  refine zd_ac (ok_iret (l := l) (B := B) (y := m_Te_spell) (pc := 199) rfl (zd_dr dc_Te_spell 102 rfl)) ?_
  exact zd_an
def dl_Te_restart : List (Nat × Instr × Nat) := [(0, .aload_n 0, 1), (1, .iconst (0), 1), (2, .putfield 15, 3), (5, .iload_n 1, 1), (6, .bipush (20), 2), (8, .iadd, 1), (9, .aload_n 0, 1), (10, .getfield 9, 3), (13, .arraylength, 1), (14, .if_icmp .le (12), 3), (17, .aload_n 0, 1), (18, .sipush (11020), 3), (21, .newarray .char, 2), (23, .putfield 9, 3), (26, .return_, 1)]
theorem dc_Te_restart : ∀ q ∈ dl_Te_restart, decode (zd_yb m_Te_restart) q.1 = .ok q.2 := by decide +kernel
def cd_Te_restart (l : Launch) (B : zd_B) : List (Nat × zd_S) := [(0, oc_aload 0 1), (1, oc_ci (0) 2), (2, oc_putf B (zy7 1) 7 1 5), (5, oc_iload 1 6), (6, oc_ci (20) 8), (8, oc_iadd 9), (9, oc_aload 0 10), (10, oc_getf B 7 0 13), (13, oc_arraylength B 14), (14, oc_icmp_le 26 17), (17, oc_aload 0 18), (18, oc_ci (11020) 21), (21, oc_newa B 1 23), (23, oc_putf B (zy7 0) 7 0 26), (26, oc_vret)]
set_option maxRecDepth 20000 in
theorem ok_Te_restart {l : Launch} {B : zd_B} (hG : zd_G B) (hl : l.stackTraces = false) : ∀ q ∈ cd_Te_restart l B, zd_ok l B m_Te_restart q.1 q.2 := by
  unfold cd_Te_restart
  refine zd_ac (ok_aload_n (l := l) (B := B) (y := m_Te_restart) (pc := 0) (k := 0) rfl (zd_dr dc_Te_restart 0 rfl)) ?_
  refine zd_ac (ok_iconst (l := l) (B := B) (y := m_Te_restart) (pc := 1) (n := (0)) (zd_dr dc_Te_restart 1 rfl) rfl) ?_
  refine zd_ac (ok_putf (l := l) (B := B) (y := m_Te_restart) (pc := 2) hG (C := zR7) (T := zT7) (N := 2) (ci := 7) (k := 1) rfl zl7 zt7 (by decide) (List.mem_of_getElem? (i := 165) (by decide +kernel)) rfl (zd_dr dc_Te_restart 2 rfl)) ?_
  refine zd_ac (ok_iload_n (l := l) (B := B) (y := m_Te_restart) (pc := 5) (k := 1) rfl (zd_dr dc_Te_restart 3 rfl)) ?_
  refine zd_ac (ok_bipush (l := l) (B := B) (y := m_Te_restart) (pc := 6) (n := (20)) (zd_dr dc_Te_restart 4 rfl) rfl) ?_
  refine zd_ac (ok_iadd (l := l) (B := B) (y := m_Te_restart) (pc := 8) (zd_dr dc_Te_restart 5 rfl)) ?_
  refine zd_ac (ok_aload_n (l := l) (B := B) (y := m_Te_restart) (pc := 9) (k := 0) rfl (zd_dr dc_Te_restart 6 rfl)) ?_
  refine zd_ac (ok_getf (l := l) (B := B) (y := m_Te_restart) (pc := 10) hG (C := zR7) (T := zT7) (N := 2) (ci := 7) (k := 0) rfl zl7 (by decide) (List.mem_of_getElem? (i := 164) (by decide +kernel)) (zd_dr dc_Te_restart 7 rfl)) ?_
  refine zd_ac (ok_arraylength (l := l) (B := B) (y := m_Te_restart) (pc := 13) hG (zd_dr dc_Te_restart 8 rfl)) ?_
  refine zd_ac (ok_icmp_le (l := l) (B := B) (y := m_Te_restart) (pc := 14) (zd_dr dc_Te_restart 9 rfl) (by decide)) ?_
  refine zd_ac (ok_aload_n (l := l) (B := B) (y := m_Te_restart) (pc := 17) (k := 0) rfl (zd_dr dc_Te_restart 10 rfl)) ?_
  refine zd_ac (ok_sipush (l := l) (B := B) (y := m_Te_restart) (pc := 18) (n := (11020)) (zd_dr dc_Te_restart 11 rfl) rfl) ?_
  refine zd_ac (ok_newa_char (l := l) (B := B) (y := m_Te_restart) (pc := 21) hG (List.mem_of_getElem? (i := 157) (by decide +kernel)) (zd_dr dc_Te_restart 12 rfl)) ?_
  refine zd_ac (ok_putf (l := l) (B := B) (y := m_Te_restart) (pc := 23) hG (C := zR7) (T := zT7) (N := 2) (ci := 7) (k := 0) rfl zl7 zt7 (by decide) (List.mem_of_getElem? (i := 164) (by decide +kernel)) rfl (zd_dr dc_Te_restart 13 rfl)) ?_
  refine zd_ac (ok_vret (l := l) (B := B) (y := m_Te_restart) (pc := 26) rfl (zd_dr dc_Te_restart 14 rfl)) ?_
  exact zd_an
def dl_Te_append : List (Nat × Instr × Nat) := [(0, .aload_n 0, 1), (1, .getfield 15, 3), (4, .aload_n 0, 1), (5, .getfield 9, 3), (8, .arraylength, 1), (9, .if_icmp .ge (23), 3), (12, .aload_n 0, 1), (13, .getfield 9, 3), (16, .aload_n 0, 1), (17, .getfield 15, 3), (20, .iload_n 1, 1), (21, .castore, 1), (22, .aload_n 0, 1), (23, .dup, 1), (24, .getfield 15, 3), (27, .iconst (1), 1), (28, .iadd, 1), (29, .putfield 15, 3), (32, .return_, 1)]
theorem dc_Te_append : ∀ q ∈ dl_Te_append, decode (zd_yb m_Te_append) q.1 = .ok q.2 := by decide +kernel
def cd_Te_append (l : Launch) (B : zd_B) : List (Nat × zd_S) := [(0, oc_aload 0 1), (1, oc_getf B 7 1 4), (4, oc_aload 0 5), (5, oc_getf B 7 0 8), (8, oc_arraylength B 9), (9, oc_icmp_ge 32 12), (12, oc_aload 0 13), (13, oc_getf B 7 0 16), (16, oc_aload 0 17), (17, oc_getf B 7 1 20), (20, oc_iload 1 21), (21, oc_castore B 22), (22, oc_aload 0 23), (23, oc_dup 24), (24, oc_getf B 7 1 27), (27, oc_ci (1) 28), (28, oc_iadd 29), (29, oc_putf B (zy7 1) 7 1 32), (32, oc_vret)]
set_option maxRecDepth 20000 in
theorem ok_Te_append {l : Launch} {B : zd_B} (hG : zd_G B) (hl : l.stackTraces = false) : ∀ q ∈ cd_Te_append l B, zd_ok l B m_Te_append q.1 q.2 := by
  unfold cd_Te_append
  refine zd_ac (ok_aload_n (l := l) (B := B) (y := m_Te_append) (pc := 0) (k := 0) rfl (zd_dr dc_Te_append 0 rfl)) ?_
  refine zd_ac (ok_getf (l := l) (B := B) (y := m_Te_append) (pc := 1) hG (C := zR7) (T := zT7) (N := 2) (ci := 7) (k := 1) rfl zl7 (by decide) (List.mem_of_getElem? (i := 165) (by decide +kernel)) (zd_dr dc_Te_append 1 rfl)) ?_
  refine zd_ac (ok_aload_n (l := l) (B := B) (y := m_Te_append) (pc := 4) (k := 0) rfl (zd_dr dc_Te_append 2 rfl)) ?_
  refine zd_ac (ok_getf (l := l) (B := B) (y := m_Te_append) (pc := 5) hG (C := zR7) (T := zT7) (N := 2) (ci := 7) (k := 0) rfl zl7 (by decide) (List.mem_of_getElem? (i := 164) (by decide +kernel)) (zd_dr dc_Te_append 3 rfl)) ?_
  refine zd_ac (ok_arraylength (l := l) (B := B) (y := m_Te_append) (pc := 8) hG (zd_dr dc_Te_append 4 rfl)) ?_
  refine zd_ac (ok_icmp_ge (l := l) (B := B) (y := m_Te_append) (pc := 9) (zd_dr dc_Te_append 5 rfl) (by decide)) ?_
  refine zd_ac (ok_aload_n (l := l) (B := B) (y := m_Te_append) (pc := 12) (k := 0) rfl (zd_dr dc_Te_append 6 rfl)) ?_
  refine zd_ac (ok_getf (l := l) (B := B) (y := m_Te_append) (pc := 13) hG (C := zR7) (T := zT7) (N := 2) (ci := 7) (k := 0) rfl zl7 (by decide) (List.mem_of_getElem? (i := 164) (by decide +kernel)) (zd_dr dc_Te_append 7 rfl)) ?_
  refine zd_ac (ok_aload_n (l := l) (B := B) (y := m_Te_append) (pc := 16) (k := 0) rfl (zd_dr dc_Te_append 8 rfl)) ?_
  refine zd_ac (ok_getf (l := l) (B := B) (y := m_Te_append) (pc := 17) hG (C := zR7) (T := zT7) (N := 2) (ci := 7) (k := 1) rfl zl7 (by decide) (List.mem_of_getElem? (i := 165) (by decide +kernel)) (zd_dr dc_Te_append 9 rfl)) ?_
  refine zd_ac (ok_iload_n (l := l) (B := B) (y := m_Te_append) (pc := 20) (k := 1) rfl (zd_dr dc_Te_append 10 rfl)) ?_
  refine zd_ac (ok_castore (l := l) (B := B) (y := m_Te_append) (pc := 21) hG (zd_dr dc_Te_append 11 rfl)) ?_
  refine zd_ac (ok_aload_n (l := l) (B := B) (y := m_Te_append) (pc := 22) (k := 0) rfl (zd_dr dc_Te_append 12 rfl)) ?_
  refine zd_ac (ok_dup (l := l) (B := B) (y := m_Te_append) (pc := 23) (zd_dr dc_Te_append 13 rfl)) ?_
  refine zd_ac (ok_getf (l := l) (B := B) (y := m_Te_append) (pc := 24) hG (C := zR7) (T := zT7) (N := 2) (ci := 7) (k := 1) rfl zl7 (by decide) (List.mem_of_getElem? (i := 165) (by decide +kernel)) (zd_dr dc_Te_append 14 rfl)) ?_
  refine zd_ac (ok_iconst (l := l) (B := B) (y := m_Te_append) (pc := 27) (n := (1)) (zd_dr dc_Te_append 15 rfl) rfl) ?_
  refine zd_ac (ok_iadd (l := l) (B := B) (y := m_Te_append) (pc := 28) (zd_dr dc_Te_append 16 rfl)) ?_
  refine zd_ac (ok_putf (l := l) (B := B) (y := m_Te_append) (pc := 29) hG (C := zR7) (T := zT7) (N := 2) (ci := 7) (k := 1) rfl zl7 zt7 (by decide) (List.mem_of_getElem? (i := 165) (by decide +kernel)) rfl (zd_dr dc_Te_append 17 rfl)) ?_
  refine zd_ac (ok_vret (l := l) (B := B) (y := m_Te_append) (pc := 32) rfl (zd_dr dc_Te_append 18 rfl)) ?_
  exact zd_an
def dl_Te_appendZeros : List (Nat × Instr × Nat) := [(0, .iconst (0), 1), (1, .istore_n 2, 1), (2, .iload_n 2, 1), (3, .iload_n 1, 1), (4, .if_icmp .ge (15), 3), (7, .aload_n 0, 1), (8, .bipush (48), 2), (10, .invokevirtual 48, 3), (13, .iinc 2 (1), 3), (16, .goto (-14), 3), (19, .return_, 1)]
theorem dc_Te_appendZeros : ∀ q ∈ dl_Te_appendZeros, decode (zd_yb m_Te_appendZeros) q.1 = .ok q.2 := by decide +kernel
def cd_Te_appendZeros (l : Launch) (B : zd_B) : List (Nat × zd_S) := [(0, oc_ci (0) 1), (1, oc_istore 2 2), (2, oc_iload 2 3), (3, oc_iload 1 4), (4, oc_icmp_ge 19 7), (7, oc_aload 0 8), (8, oc_ci (48) 10), (10, oc_callv l B 7 m_Te_append 1 13), (13, oc_iinc 2 (1) 16), (16, oc_goto 2), (19, oc_vret)]
set_option maxRecDepth 20000 in
theorem ok_Te_appendZeros {l : Launch} {B : zd_B} (hG : zd_G B) (hl : l.stackTraces = false) : ∀ q ∈ cd_Te_appendZeros l B, zd_ok l B m_Te_appendZeros q.1 q.2 := by
  unfold cd_Te_appendZeros
  refine zd_ac (ok_iconst (l := l) (B := B) (y := m_Te_appendZeros) (pc := 0) (n := (0)) (zd_dr dc_Te_appendZeros 0 rfl) rfl) ?_
  refine zd_ac (ok_istore_n (l := l) (B := B) (y := m_Te_appendZeros) (pc := 1) (k := 2) rfl (zd_dr dc_Te_appendZeros 1 rfl) (by decide)) ?_
  refine zd_ac (ok_iload_n (l := l) (B := B) (y := m_Te_appendZeros) (pc := 2) (k := 2) rfl (zd_dr dc_Te_appendZeros 2 rfl)) ?_
  refine zd_ac (ok_iload_n (l := l) (B := B) (y := m_Te_appendZeros) (pc := 3) (k := 1) rfl (zd_dr dc_Te_appendZeros 3 rfl)) ?_
  refine zd_ac (ok_icmp_ge (l := l) (B := B) (y := m_Te_appendZeros) (pc := 4) (zd_dr dc_Te_appendZeros 4 rfl) (by decide)) ?_
  refine zd_ac (ok_aload_n (l := l) (B := B) (y := m_Te_appendZeros) (pc := 7) (k := 0) rfl (zd_dr dc_Te_appendZeros 5 rfl)) ?_
  refine zd_ac (ok_bipush (l := l) (B := B) (y := m_Te_appendZeros) (pc := 8) (n := (48)) (zd_dr dc_Te_appendZeros 6 rfl) rfl) ?_
  refine zd_ac (ok_callv (l := l) (B := B) (y := m_Te_appendZeros) (pc := 10) hG (ci := 7) rfl cf_Te_appendZeros_Te_append rfl (List.mem_of_getElem? (i := 841) (by decide +kernel)) (List.mem_of_getElem? (i := 843) (by decide +kernel)) (List.mem_of_getElem? (i := 20) (by decide +kernel)) (zd_dr dc_Te_appendZeros 7 rfl)) ?_
  refine zd_ac (ok_iinc (l := l) (B := B) (y := m_Te_appendZeros) (pc := 13) (zd_dr dc_Te_appendZeros 8 rfl) (by decide) rfl) ?_
  refine zd_ac (ok_goto (l := l) (B := B) (y := m_Te_appendZeros) (pc := 16) (zd_dr dc_Te_appendZeros 9 rfl) (by decide)) ?_
  refine zd_ac (ok_vret (l := l) (B := B) (y := m_Te_appendZeros) (pc := 19) rfl (zd_dr dc_Te_appendZeros 10 rfl)) ?_
  exact zd_an
def dl_Te_appendDigits : List (Nat × Instr × Nat) := [(0, .aload_n 1, 1), (1, .invokevirtual 25, 3), (4, .iconst (1), 1), (5, .isub, 1), (6, .istore 4, 2), (8, .iload_n 2, 1), (9, .istore 5, 2), (11, .iload 5, 2), (13, .iload_n 3, 1), (14, .if_icmp .ge (26), 3), (17, .aload_n 0, 1), (18, .bipush (48), 2), (20, .aload_n 1, 1), (21, .iload 4, 2), (23, .iload 5, 2), (25, .isub, 1), (26, .invokevirtual 74, 3), (29, .iadd, 1), (30, .i2c, 1), (31, .invokevirtual 48, 3), (34, .iinc 5 (1), 3), (37, .goto (-26), 3), (40, .return_, 1)]
theorem dc_Te_appendDigits : ∀ q ∈ dl_Te_appendDigits, decode (zd_yb m_Te_appendDigits) q.1 = .ok q.2 := by decide +kernel
def cd_Te_appendDigits (l : Launch) (B : zd_B) : List (Nat × zd_S) := [(0, oc_aload 1 1), (1, oc_callv l B 4 m_Na_digits 0 4), (4, oc_ci (1) 5), (5, oc_isub 6), (6, oc_istore 4 8), (8, oc_iload 2 9), (9, oc_istore 5 11), (11, oc_iload 5 13), (13, oc_iload 3 14), (14, oc_icmp_ge 40 17), (17, oc_aload 0 18), (18, oc_ci (48) 20), (20, oc_aload 1 21), (21, oc_iload 4 23), (23, oc_iload 5 25), (25, oc_isub 26), (26, oc_callv l B 4 m_Na_digitAt 1 29), (29, oc_iadd 30), (30, oc_i2c 31), (31, oc_callv l B 7 m_Te_append 1 34), (34, oc_iinc 5 (1) 37), (37, oc_goto 11), (40, oc_vret)]
set_option maxRecDepth 20000 in
theorem ok_Te_appendDigits {l : Launch} {B : zd_B} (hG : zd_G B) (hl : l.stackTraces = false) : ∀ q ∈ cd_Te_appendDigits l B, zd_ok l B m_Te_appendDigits q.1 q.2 := by
  unfold cd_Te_appendDigits
  refine zd_ac (ok_aload_n (l := l) (B := B) (y := m_Te_appendDigits) (pc := 0) (k := 1) rfl (zd_dr dc_Te_appendDigits 0 rfl)) ?_
  refine zd_ac (ok_callv (l := l) (B := B) (y := m_Te_appendDigits) (pc := 1) hG (ci := 4) rfl cf_Te_appendDigits_Na_digits rfl (List.mem_of_getElem? (i := 833) (by decide +kernel)) (List.mem_of_getElem? (i := 474) (by decide +kernel)) (List.mem_of_getElem? (i := 475) (by decide +kernel)) (zd_dr dc_Te_appendDigits 1 rfl)) ?_
  refine zd_ac (ok_iconst (l := l) (B := B) (y := m_Te_appendDigits) (pc := 4) (n := (1)) (zd_dr dc_Te_appendDigits 2 rfl) rfl) ?_
  refine zd_ac (ok_isub (l := l) (B := B) (y := m_Te_appendDigits) (pc := 5) (zd_dr dc_Te_appendDigits 3 rfl)) ?_
  refine zd_ac (ok_istore (l := l) (B := B) (y := m_Te_appendDigits) (pc := 6) (zd_dr dc_Te_appendDigits 4 rfl) (by decide)) ?_
  refine zd_ac (ok_iload_n (l := l) (B := B) (y := m_Te_appendDigits) (pc := 8) (k := 2) rfl (zd_dr dc_Te_appendDigits 5 rfl)) ?_
  refine zd_ac (ok_istore (l := l) (B := B) (y := m_Te_appendDigits) (pc := 9) (zd_dr dc_Te_appendDigits 6 rfl) (by decide)) ?_
  refine zd_ac (ok_iload (l := l) (B := B) (y := m_Te_appendDigits) (pc := 11) (zd_dr dc_Te_appendDigits 7 rfl)) ?_
  refine zd_ac (ok_iload_n (l := l) (B := B) (y := m_Te_appendDigits) (pc := 13) (k := 3) rfl (zd_dr dc_Te_appendDigits 8 rfl)) ?_
  refine zd_ac (ok_icmp_ge (l := l) (B := B) (y := m_Te_appendDigits) (pc := 14) (zd_dr dc_Te_appendDigits 9 rfl) (by decide)) ?_
  refine zd_ac (ok_aload_n (l := l) (B := B) (y := m_Te_appendDigits) (pc := 17) (k := 0) rfl (zd_dr dc_Te_appendDigits 10 rfl)) ?_
  refine zd_ac (ok_bipush (l := l) (B := B) (y := m_Te_appendDigits) (pc := 18) (n := (48)) (zd_dr dc_Te_appendDigits 11 rfl) rfl) ?_
  refine zd_ac (ok_aload_n (l := l) (B := B) (y := m_Te_appendDigits) (pc := 20) (k := 1) rfl (zd_dr dc_Te_appendDigits 12 rfl)) ?_
  refine zd_ac (ok_iload (l := l) (B := B) (y := m_Te_appendDigits) (pc := 21) (zd_dr dc_Te_appendDigits 13 rfl)) ?_
  refine zd_ac (ok_iload (l := l) (B := B) (y := m_Te_appendDigits) (pc := 23) (zd_dr dc_Te_appendDigits 14 rfl)) ?_
  refine zd_ac (ok_isub (l := l) (B := B) (y := m_Te_appendDigits) (pc := 25) (zd_dr dc_Te_appendDigits 15 rfl)) ?_
  refine zd_ac (ok_callv (l := l) (B := B) (y := m_Te_appendDigits) (pc := 26) hG (ci := 4) rfl cf_Te_appendDigits_Na_digitAt rfl (List.mem_of_getElem? (i := 853) (by decide +kernel)) (List.mem_of_getElem? (i := 648) (by decide +kernel)) (List.mem_of_getElem? (i := 649) (by decide +kernel)) (zd_dr dc_Te_appendDigits 16 rfl)) ?_
  refine zd_ac (ok_iadd (l := l) (B := B) (y := m_Te_appendDigits) (pc := 29) (zd_dr dc_Te_appendDigits 17 rfl)) ?_
  refine zd_ac (ok_i2c (l := l) (B := B) (y := m_Te_appendDigits) (pc := 30) (zd_dr dc_Te_appendDigits 18 rfl)) ?_
  refine zd_ac (ok_callv (l := l) (B := B) (y := m_Te_appendDigits) (pc := 31) hG (ci := 7) rfl cf_Te_appendDigits_Te_append rfl (List.mem_of_getElem? (i := 841) (by decide +kernel)) (List.mem_of_getElem? (i := 843) (by decide +kernel)) (List.mem_of_getElem? (i := 20) (by decide +kernel)) (zd_dr dc_Te_appendDigits 19 rfl)) ?_
  refine zd_ac (ok_iinc (l := l) (B := B) (y := m_Te_appendDigits) (pc := 34) (zd_dr dc_Te_appendDigits 20 rfl) (by decide) rfl) ?_
  refine zd_ac (ok_goto (l := l) (B := B) (y := m_Te_appendDigits) (pc := 37) (zd_dr dc_Te_appendDigits 21 rfl) (by decide)) ?_
  refine zd_ac (ok_vret (l := l) (B := B) (y := m_Te_appendDigits) (pc := 40) rfl (zd_dr dc_Te_appendDigits 22 rfl)) ?_
  exact zd_an
def dl_Te_appendPower : List (Nat × Instr × Nat) := [(0, .iload_n 1, 1), (1, .ifCond .ne (4), 3), (4, .return_, 1), (5, .aload_n 0, 1), (6, .bipush (69), 2), (8, .invokevirtual 48, 3), (11, .aload_n 0, 1), (12, .iload_n 1, 1), (13, .ifCond .ge (8), 3), (16, .bipush (45), 2), (18, .goto (5), 3), (21, .bipush (43), 2), (23, .invokevirtual 48, 3), (26, .iload_n 1, 1), (27, .invokestatic 34, 3), (30, .istore_n 2, 1), (31, .bipush (9), 2), (33, .istore_n 3, 1), (34, .iload_n 3, 1), (35, .ifCond .le (18), 3), (38, .iload_n 2, 1), (39, .getstatic 77, 3), (42, .iload_n 3, 1), (43, .iaload, 1), (44, .if_icmp .ge (9), 3), (47, .iinc 3 (-1), 3), (50, .goto (-16), 3), (53, .iload_n 3, 1), (54, .istore 4, 2), (56, .iload 4, 2), (58, .ifCond .lt (28), 3), (61, .aload_n 0, 1), (62, .bipush (48), 2), (64, .iload_n 2, 1), (65, .getstatic 77, 3), (68, .iload 4, 2), (70, .iaload, 1), (71, .idiv, 1), (72, .bipush (10), 2), (74, .irem, 1), (75, .iadd, 1), (76, .i2c, 1), (77, .invokevirtual 48, 3), (80, .iinc 4 (-1), 3), (83, .goto (-27), 3), (86, .return_, 1)]
theorem dc_Te_appendPower : ∀ q ∈ dl_Te_appendPower, decode (zd_yb m_Te_appendPower) q.1 = .ok q.2 := by decide +kernel
def cd_Te_appendPower (l : Launch) (B : zd_B) : List (Nat × zd_S) := [(0, oc_iload 1 1), (1, oc_if_ne 5 4), (4, oc_vret), (5, oc_aload 0 6), (6, oc_ci (69) 8), (8, oc_callv l B 7 m_Te_append 1 11), (11, oc_aload 0 12), (12, oc_iload 1 13), (13, oc_if_ge 21 16), (16, oc_ci (45) 18), (18, oc_goto 23), (21, oc_ci (43) 23), (23, oc_callv l B 7 m_Te_append 1 26), (26, oc_iload 1 27), (27, oc_calls l B m_Ma_abs 1 30), (30, oc_istore 2 31), (31, oc_ci (9) 33), (33, oc_istore 3 34), (34, oc_iload 3 35), (35, oc_if_le 53 38), (38, oc_iload 2 39), (39, oc_tens B 42), (42, oc_iload 3 43), (43, oc_iaload B 44), (44, oc_icmp_ge 53 47), (47, oc_iinc 3 (-1) 50), (50, oc_goto 34), (53, oc_iload 3 54), (54, oc_istore 4 56), (56, oc_iload 4 58), (58, oc_if_lt 86 61), (61, oc_aload 0 62), (62, oc_ci (48) 64), (64, oc_iload 2 65), (65, oc_tens B 68), (68, oc_iload 4 70), (70, oc_iaload B 71), (71, oc_idiv 72), (72, oc_ci (10) 74), (74, oc_irem 75), (75, oc_iadd 76), (76, oc_i2c 77), (77, oc_callv l B 7 m_Te_append 1 80), (80, oc_iinc 4 (-1) 83), (83, oc_goto 56), (86, oc_vret)]
set_option maxRecDepth 20000 in
theorem ok_Te_appendPower {l : Launch} {B : zd_B} (hG : zd_G B) (hl : l.stackTraces = false) : ∀ q ∈ cd_Te_appendPower l B, zd_ok l B m_Te_appendPower q.1 q.2 := by
  unfold cd_Te_appendPower
  refine zd_ac (ok_iload_n (l := l) (B := B) (y := m_Te_appendPower) (pc := 0) (k := 1) rfl (zd_dr dc_Te_appendPower 0 rfl)) ?_
  refine zd_ac (ok_if_ne (l := l) (B := B) (y := m_Te_appendPower) (pc := 1) (zd_dr dc_Te_appendPower 1 rfl) (by decide)) ?_
  refine zd_ac (ok_vret (l := l) (B := B) (y := m_Te_appendPower) (pc := 4) rfl (zd_dr dc_Te_appendPower 2 rfl)) ?_
  refine zd_ac (ok_aload_n (l := l) (B := B) (y := m_Te_appendPower) (pc := 5) (k := 0) rfl (zd_dr dc_Te_appendPower 3 rfl)) ?_
  refine zd_ac (ok_bipush (l := l) (B := B) (y := m_Te_appendPower) (pc := 6) (n := (69)) (zd_dr dc_Te_appendPower 4 rfl) rfl) ?_
  refine zd_ac (ok_callv (l := l) (B := B) (y := m_Te_appendPower) (pc := 8) hG (ci := 7) rfl cf_Te_appendPower_Te_append rfl (List.mem_of_getElem? (i := 841) (by decide +kernel)) (List.mem_of_getElem? (i := 843) (by decide +kernel)) (List.mem_of_getElem? (i := 20) (by decide +kernel)) (zd_dr dc_Te_appendPower 5 rfl)) ?_
  refine zd_ac (ok_aload_n (l := l) (B := B) (y := m_Te_appendPower) (pc := 11) (k := 0) rfl (zd_dr dc_Te_appendPower 6 rfl)) ?_
  refine zd_ac (ok_iload_n (l := l) (B := B) (y := m_Te_appendPower) (pc := 12) (k := 1) rfl (zd_dr dc_Te_appendPower 7 rfl)) ?_
  refine zd_ac (ok_if_ge (l := l) (B := B) (y := m_Te_appendPower) (pc := 13) (zd_dr dc_Te_appendPower 8 rfl) (by decide)) ?_
  refine zd_ac (ok_bipush (l := l) (B := B) (y := m_Te_appendPower) (pc := 16) (n := (45)) (zd_dr dc_Te_appendPower 9 rfl) rfl) ?_
  refine zd_ac (ok_goto (l := l) (B := B) (y := m_Te_appendPower) (pc := 18) (zd_dr dc_Te_appendPower 10 rfl) (by decide)) ?_
  refine zd_ac (ok_bipush (l := l) (B := B) (y := m_Te_appendPower) (pc := 21) (n := (43)) (zd_dr dc_Te_appendPower 11 rfl) rfl) ?_
  refine zd_ac (ok_callv (l := l) (B := B) (y := m_Te_appendPower) (pc := 23) hG (ci := 7) rfl cf_Te_appendPower_Te_append rfl (List.mem_of_getElem? (i := 841) (by decide +kernel)) (List.mem_of_getElem? (i := 843) (by decide +kernel)) (List.mem_of_getElem? (i := 20) (by decide +kernel)) (zd_dr dc_Te_appendPower 12 rfl)) ?_
  refine zd_ac (ok_iload_n (l := l) (B := B) (y := m_Te_appendPower) (pc := 26) (k := 1) rfl (zd_dr dc_Te_appendPower 13 rfl)) ?_
  refine zd_ac (ok_calls (l := l) (B := B) (y := m_Te_appendPower) (pc := 27) hG cf_Te_appendPower_Ma_abs rfl (List.mem_of_getElem? (i := 834) (by decide +kernel)) (List.mem_of_getElem? (i := 835) (by decide +kernel)) (List.mem_of_getElem? (i := 72) (by decide +kernel)) (zd_dr dc_Te_appendPower 14 rfl)) ?_
  refine zd_ac (ok_istore_n (l := l) (B := B) (y := m_Te_appendPower) (pc := 30) (k := 2) rfl (zd_dr dc_Te_appendPower 15 rfl) (by decide)) ?_
  refine zd_ac (ok_bipush (l := l) (B := B) (y := m_Te_appendPower) (pc := 31) (n := (9)) (zd_dr dc_Te_appendPower 16 rfl) rfl) ?_
  refine zd_ac (ok_istore_n (l := l) (B := B) (y := m_Te_appendPower) (pc := 33) (k := 3) rfl (zd_dr dc_Te_appendPower 17 rfl) (by decide)) ?_
  refine zd_ac (ok_iload_n (l := l) (B := B) (y := m_Te_appendPower) (pc := 34) (k := 3) rfl (zd_dr dc_Te_appendPower 18 rfl)) ?_
  refine zd_ac (ok_if_le (l := l) (B := B) (y := m_Te_appendPower) (pc := 35) (zd_dr dc_Te_appendPower 19 rfl) (by decide)) ?_
  refine zd_ac (ok_iload_n (l := l) (B := B) (y := m_Te_appendPower) (pc := 38) (k := 2) rfl (zd_dr dc_Te_appendPower 20 rfl)) ?_
  refine zd_ac (ok_tensN (l := l) (B := B) (y := m_Te_appendPower) (pc := 39) (host := "DecimalDesk") hG (List.mem_of_getElem? (i := 868) (by decide +kernel)) (zd_dr dc_Te_appendPower 21 rfl)) ?_
  refine zd_ac (ok_iload_n (l := l) (B := B) (y := m_Te_appendPower) (pc := 42) (k := 3) rfl (zd_dr dc_Te_appendPower 22 rfl)) ?_
  refine zd_ac (ok_iaload (l := l) (B := B) (y := m_Te_appendPower) (pc := 43) hG (zd_dr dc_Te_appendPower 23 rfl)) ?_
  refine zd_ac (ok_icmp_ge (l := l) (B := B) (y := m_Te_appendPower) (pc := 44) (zd_dr dc_Te_appendPower 24 rfl) (by decide)) ?_
  refine zd_ac (ok_iinc (l := l) (B := B) (y := m_Te_appendPower) (pc := 47) (zd_dr dc_Te_appendPower 25 rfl) (by decide) rfl) ?_
  refine zd_ac (ok_goto (l := l) (B := B) (y := m_Te_appendPower) (pc := 50) (zd_dr dc_Te_appendPower 26 rfl) (by decide)) ?_
  refine zd_ac (ok_iload_n (l := l) (B := B) (y := m_Te_appendPower) (pc := 53) (k := 3) rfl (zd_dr dc_Te_appendPower 27 rfl)) ?_
  refine zd_ac (ok_istore (l := l) (B := B) (y := m_Te_appendPower) (pc := 54) (zd_dr dc_Te_appendPower 28 rfl) (by decide)) ?_
  refine zd_ac (ok_iload (l := l) (B := B) (y := m_Te_appendPower) (pc := 56) (zd_dr dc_Te_appendPower 29 rfl)) ?_
  refine zd_ac (ok_if_lt (l := l) (B := B) (y := m_Te_appendPower) (pc := 58) (zd_dr dc_Te_appendPower 30 rfl) (by decide)) ?_
  refine zd_ac (ok_aload_n (l := l) (B := B) (y := m_Te_appendPower) (pc := 61) (k := 0) rfl (zd_dr dc_Te_appendPower 31 rfl)) ?_
  refine zd_ac (ok_bipush (l := l) (B := B) (y := m_Te_appendPower) (pc := 62) (n := (48)) (zd_dr dc_Te_appendPower 32 rfl) rfl) ?_
  refine zd_ac (ok_iload_n (l := l) (B := B) (y := m_Te_appendPower) (pc := 64) (k := 2) rfl (zd_dr dc_Te_appendPower 33 rfl)) ?_
  refine zd_ac (ok_tensN (l := l) (B := B) (y := m_Te_appendPower) (pc := 65) (host := "DecimalDesk") hG (List.mem_of_getElem? (i := 868) (by decide +kernel)) (zd_dr dc_Te_appendPower 34 rfl)) ?_
  refine zd_ac (ok_iload (l := l) (B := B) (y := m_Te_appendPower) (pc := 68) (zd_dr dc_Te_appendPower 35 rfl)) ?_
  refine zd_ac (ok_iaload (l := l) (B := B) (y := m_Te_appendPower) (pc := 70) hG (zd_dr dc_Te_appendPower 36 rfl)) ?_
  refine zd_ac (ok_idiv (l := l) (B := B) (y := m_Te_appendPower) (pc := 71) (zd_dr dc_Te_appendPower 37 rfl)) ?_
  refine zd_ac (ok_bipush (l := l) (B := B) (y := m_Te_appendPower) (pc := 72) (n := (10)) (zd_dr dc_Te_appendPower 38 rfl) rfl) ?_
  refine zd_ac (ok_irem (l := l) (B := B) (y := m_Te_appendPower) (pc := 74) (zd_dr dc_Te_appendPower 39 rfl)) ?_
  refine zd_ac (ok_iadd (l := l) (B := B) (y := m_Te_appendPower) (pc := 75) (zd_dr dc_Te_appendPower 40 rfl)) ?_
  refine zd_ac (ok_i2c (l := l) (B := B) (y := m_Te_appendPower) (pc := 76) (zd_dr dc_Te_appendPower 41 rfl)) ?_
  refine zd_ac (ok_callv (l := l) (B := B) (y := m_Te_appendPower) (pc := 77) hG (ci := 7) rfl cf_Te_appendPower_Te_append rfl (List.mem_of_getElem? (i := 841) (by decide +kernel)) (List.mem_of_getElem? (i := 843) (by decide +kernel)) (List.mem_of_getElem? (i := 20) (by decide +kernel)) (zd_dr dc_Te_appendPower 42 rfl)) ?_
  refine zd_ac (ok_iinc (l := l) (B := B) (y := m_Te_appendPower) (pc := 80) (zd_dr dc_Te_appendPower 43 rfl) (by decide) rfl) ?_
  refine zd_ac (ok_goto (l := l) (B := B) (y := m_Te_appendPower) (pc := 83) (zd_dr dc_Te_appendPower 44 rfl) (by decide)) ?_
  refine zd_ac (ok_vret (l := l) (B := B) (y := m_Te_appendPower) (pc := 86) rfl (zd_dr dc_Te_appendPower 45 rfl)) ?_
  exact zd_an
def dl_Te_spellInteger : List (Nat × Instr × Nat) := [(0, .aload_n 0, 1), (1, .aload_n 1, 1), (2, .getfield 19, 3), (5, .iconst (0), 1), (6, .aload_n 1, 1), (7, .getfield 19, 3), (10, .invokevirtual 25, 3), (13, .invokevirtual 81, 3), (16, .aload_n 1, 1), (17, .getfield 19, 3), (20, .invokevirtual 63, 3), (23, .ifCond .ne (12), 3), (26, .aload_n 0, 1), (27, .aload_n 1, 1), (28, .getfield 31, 3), (31, .ineg, 1), (32, .invokevirtual 85, 3), (35, .return_, 1)]
theorem dc_Te_spellInteger : ∀ q ∈ dl_Te_spellInteger, decode (zd_yb m_Te_spellInteger) q.1 = .ok q.2 := by decide +kernel
def cd_Te_spellInteger (l : Launch) (B : zd_B) : List (Nat × zd_S) := [(0, oc_aload 0 1), (1, oc_aload 1 2), (2, oc_getf B 1 0 5), (5, oc_ci (0) 6), (6, oc_aload 1 7), (7, oc_getf B 1 0 10), (10, oc_callv l B 4 m_Na_digits 0 13), (13, oc_callv l B 7 m_Te_appendDigits 3 16), (16, oc_aload 1 17), (17, oc_getf B 1 0 20), (20, oc_callv l B 4 m_Na_isZero 0 23), (23, oc_if_ne 35 26), (26, oc_aload 0 27), (27, oc_aload 1 28), (28, oc_getf B 1 2 31), (31, oc_ineg 32), (32, oc_callv l B 7 m_Te_appendZeros 1 35), (35, oc_vret)]
set_option maxRecDepth 20000 in
theorem ok_Te_spellInteger {l : Launch} {B : zd_B} (hG : zd_G B) (hl : l.stackTraces = false) : ∀ q ∈ cd_Te_spellInteger l B, zd_ok l B m_Te_spellInteger q.1 q.2 := by
  unfold cd_Te_spellInteger
  refine zd_ac (ok_aload_n (l := l) (B := B) (y := m_Te_spellInteger) (pc := 0) (k := 0) rfl (zd_dr dc_Te_spellInteger 0 rfl)) ?_
  refine zd_ac (ok_aload_n (l := l) (B := B) (y := m_Te_spellInteger) (pc := 1) (k := 1) rfl (zd_dr dc_Te_spellInteger 1 rfl)) ?_
  refine zd_ac (ok_getf (l := l) (B := B) (y := m_Te_spellInteger) (pc := 2) hG (C := zR1) (T := zT1) (N := 3) (ci := 1) (k := 0) rfl zl1 (by decide) (List.mem_of_getElem? (i := 108) (by decide +kernel)) (zd_dr dc_Te_spellInteger 2 rfl)) ?_
  refine zd_ac (ok_iconst (l := l) (B := B) (y := m_Te_spellInteger) (pc := 5) (n := (0)) (zd_dr dc_Te_spellInteger 3 rfl) rfl) ?_
  refine zd_ac (ok_aload_n (l := l) (B := B) (y := m_Te_spellInteger) (pc := 6) (k := 1) rfl (zd_dr dc_Te_spellInteger 4 rfl)) ?_
  refine zd_ac (ok_getf (l := l) (B := B) (y := m_Te_spellInteger) (pc := 7) hG (C := zR1) (T := zT1) (N := 3) (ci := 1) (k := 0) rfl zl1 (by decide) (List.mem_of_getElem? (i := 108) (by decide +kernel)) (zd_dr dc_Te_spellInteger 5 rfl)) ?_
  refine zd_ac (ok_callv (l := l) (B := B) (y := m_Te_spellInteger) (pc := 10) hG (ci := 4) rfl cf_Te_spellInteger_Na_digits rfl (List.mem_of_getElem? (i := 833) (by decide +kernel)) (List.mem_of_getElem? (i := 474) (by decide +kernel)) (List.mem_of_getElem? (i := 475) (by decide +kernel)) (zd_dr dc_Te_spellInteger 6 rfl)) ?_
  refine zd_ac (ok_callv (l := l) (B := B) (y := m_Te_spellInteger) (pc := 13) hG (ci := 7) rfl cf_Te_spellInteger_Te_appendDigits rfl (List.mem_of_getElem? (i := 849) (by decide +kernel)) (List.mem_of_getElem? (i := 851) (by decide +kernel)) (List.mem_of_getElem? (i := 22) (by decide +kernel)) (zd_dr dc_Te_spellInteger 7 rfl)) ?_
  refine zd_ac (ok_aload_n (l := l) (B := B) (y := m_Te_spellInteger) (pc := 16) (k := 1) rfl (zd_dr dc_Te_spellInteger 8 rfl)) ?_
  refine zd_ac (ok_getf (l := l) (B := B) (y := m_Te_spellInteger) (pc := 17) hG (C := zR1) (T := zT1) (N := 3) (ci := 1) (k := 0) rfl zl1 (by decide) (List.mem_of_getElem? (i := 108) (by decide +kernel)) (zd_dr dc_Te_spellInteger 9 rfl)) ?_
  refine zd_ac (ok_callv (l := l) (B := B) (y := m_Te_spellInteger) (pc := 20) hG (ci := 4) rfl cf_Te_spellInteger_Na_isZero rfl (List.mem_of_getElem? (i := 854) (by decide +kernel)) (List.mem_of_getElem? (i := 490) (by decide +kernel)) (List.mem_of_getElem? (i := 491) (by decide +kernel)) (zd_dr dc_Te_spellInteger 10 rfl)) ?_
  refine zd_ac (ok_if_ne (l := l) (B := B) (y := m_Te_spellInteger) (pc := 23) (zd_dr dc_Te_spellInteger 11 rfl) (by decide)) ?_
  refine zd_ac (ok_aload_n (l := l) (B := B) (y := m_Te_spellInteger) (pc := 26) (k := 0) rfl (zd_dr dc_Te_spellInteger 12 rfl)) ?_
  refine zd_ac (ok_aload_n (l := l) (B := B) (y := m_Te_spellInteger) (pc := 27) (k := 1) rfl (zd_dr dc_Te_spellInteger 13 rfl)) ?_
  refine zd_ac (ok_getf (l := l) (B := B) (y := m_Te_spellInteger) (pc := 28) hG (C := zR1) (T := zT1) (N := 3) (ci := 1) (k := 2) rfl zl1 (by decide) (List.mem_of_getElem? (i := 115) (by decide +kernel)) (zd_dr dc_Te_spellInteger 14 rfl)) ?_
  refine zd_ac (ok_ineg (l := l) (B := B) (y := m_Te_spellInteger) (pc := 31) (zd_dr dc_Te_spellInteger 15 rfl)) ?_
  refine zd_ac (ok_callv (l := l) (B := B) (y := m_Te_spellInteger) (pc := 32) hG (ci := 7) rfl cf_Te_spellInteger_Te_appendZeros rfl (List.mem_of_getElem? (i := 855) (by decide +kernel)) (List.mem_of_getElem? (i := 857) (by decide +kernel)) (List.mem_of_getElem? (i := 23) (by decide +kernel)) (zd_dr dc_Te_spellInteger 16 rfl)) ?_
  refine zd_ac (ok_vret (l := l) (B := B) (y := m_Te_spellInteger) (pc := 35) rfl (zd_dr dc_Te_spellInteger 17 rfl)) ?_
  exact zd_an
def dl_Te_spellPointed : List (Nat × Instr × Nat) := [(0, .aload_n 1, 1), (1, .invokevirtual 25, 3), (4, .istore_n 3, 1), (5, .iload_n 2, 1), (6, .ifCond .gt (29), 3), (9, .aload_n 0, 1), (10, .bipush (48), 2), (12, .invokevirtual 48, 3), (15, .aload_n 0, 1), (16, .bipush (46), 2), (18, .invokevirtual 48, 3), (21, .aload_n 0, 1), (22, .iload_n 2, 1), (23, .ineg, 1), (24, .invokevirtual 85, 3), (27, .aload_n 0, 1), (28, .aload_n 1, 1), (29, .iconst (0), 1), (30, .iload_n 3, 1), (31, .invokevirtual 81, 3), (34, .return_, 1), (35, .aload_n 0, 1), (36, .aload_n 1, 1), (37, .iconst (0), 1), (38, .iload_n 2, 1), (39, .iload_n 3, 1), (40, .invokestatic 88, 3), (43, .invokevirtual 81, 3), (46, .aload_n 0, 1), (47, .iload_n 2, 1), (48, .iload_n 3, 1), (49, .isub, 1), (50, .invokevirtual 85, 3), (53, .iload_n 2, 1), (54, .iload_n 3, 1), (55, .if_icmp .ge (16), 3), (58, .aload_n 0, 1), (59, .bipush (46), 2), (61, .invokevirtual 48, 3), (64, .aload_n 0, 1), (65, .aload_n 1, 1), (66, .iload_n 2, 1), (67, .iload_n 3, 1), (68, .invokevirtual 81, 3), (71, .return_, 1)]
theorem dc_Te_spellPointed : ∀ q ∈ dl_Te_spellPointed, decode (zd_yb m_Te_spellPointed) q.1 = .ok q.2 := by decide +kernel
def cd_Te_spellPointed (l : Launch) (B : zd_B) : List (Nat × zd_S) := [(0, oc_aload 1 1), (1, oc_callv l B 4 m_Na_digits 0 4), (4, oc_istore 3 5), (5, oc_iload 2 6), (6, oc_if_gt 35 9), (9, oc_aload 0 10), (10, oc_ci (48) 12), (12, oc_callv l B 7 m_Te_append 1 15), (15, oc_aload 0 16), (16, oc_ci (46) 18), (18, oc_callv l B 7 m_Te_append 1 21), (21, oc_aload 0 22), (22, oc_iload 2 23), (23, oc_ineg 24), (24, oc_callv l B 7 m_Te_appendZeros 1 27), (27, oc_aload 0 28), (28, oc_aload 1 29), (29, oc_ci (0) 30), (30, oc_iload 3 31), (31, oc_callv l B 7 m_Te_appendDigits 3 34), (34, oc_vret), (35, oc_aload 0 36), (36, oc_aload 1 37), (37, oc_ci (0) 38), (38, oc_iload 2 39), (39, oc_iload 3 40), (40, oc_calls l B m_Ma_min 2 43), (43, oc_callv l B 7 m_Te_appendDigits 3 46), (46, oc_aload 0 47), (47, oc_iload 2 48), (48, oc_iload 3 49), (49, oc_isub 50), (50, oc_callv l B 7 m_Te_appendZeros 1 53), (53, oc_iload 2 54), (54, oc_iload 3 55), (55, oc_icmp_ge 71 58), (58, oc_aload 0 59), (59, oc_ci (46) 61), (61, oc_callv l B 7 m_Te_append 1 64), (64, oc_aload 0 65), (65, oc_aload 1 66), (66, oc_iload 2 67), (67, oc_iload 3 68), (68, oc_callv l B 7 m_Te_appendDigits 3 71), (71, oc_vret)]
set_option maxRecDepth 20000 in
theorem ok_Te_spellPointed {l : Launch} {B : zd_B} (hG : zd_G B) (hl : l.stackTraces = false) : ∀ q ∈ cd_Te_spellPointed l B, zd_ok l B m_Te_spellPointed q.1 q.2 := by
  unfold cd_Te_spellPointed
  refine zd_ac (ok_aload_n (l := l) (B := B) (y := m_Te_spellPointed) (pc := 0) (k := 1) rfl (zd_dr dc_Te_spellPointed 0 rfl)) ?_
  refine zd_ac (ok_callv (l := l) (B := B) (y := m_Te_spellPointed) (pc := 1) hG (ci := 4) rfl cf_Te_spellPointed_Na_digits rfl (List.mem_of_getElem? (i := 833) (by decide +kernel)) (List.mem_of_getElem? (i := 474) (by decide +kernel)) (List.mem_of_getElem? (i := 475) (by decide +kernel)) (zd_dr dc_Te_spellPointed 1 rfl)) ?_
  refine zd_ac (ok_istore_n (l := l) (B := B) (y := m_Te_spellPointed) (pc := 4) (k := 3) rfl (zd_dr dc_Te_spellPointed 2 rfl) (by decide)) ?_
  refine zd_ac (ok_iload_n (l := l) (B := B) (y := m_Te_spellPointed) (pc := 5) (k := 2) rfl (zd_dr dc_Te_spellPointed 3 rfl)) ?_
  refine zd_ac (ok_if_gt (l := l) (B := B) (y := m_Te_spellPointed) (pc := 6) (zd_dr dc_Te_spellPointed 4 rfl) (by decide)) ?_
  refine zd_ac (ok_aload_n (l := l) (B := B) (y := m_Te_spellPointed) (pc := 9) (k := 0) rfl (zd_dr dc_Te_spellPointed 5 rfl)) ?_
  refine zd_ac (ok_bipush (l := l) (B := B) (y := m_Te_spellPointed) (pc := 10) (n := (48)) (zd_dr dc_Te_spellPointed 6 rfl) rfl) ?_
  refine zd_ac (ok_callv (l := l) (B := B) (y := m_Te_spellPointed) (pc := 12) hG (ci := 7) rfl cf_Te_spellPointed_Te_append rfl (List.mem_of_getElem? (i := 841) (by decide +kernel)) (List.mem_of_getElem? (i := 843) (by decide +kernel)) (List.mem_of_getElem? (i := 20) (by decide +kernel)) (zd_dr dc_Te_spellPointed 7 rfl)) ?_
  refine zd_ac (ok_aload_n (l := l) (B := B) (y := m_Te_spellPointed) (pc := 15) (k := 0) rfl (zd_dr dc_Te_spellPointed 8 rfl)) ?_
  refine zd_ac (ok_bipush (l := l) (B := B) (y := m_Te_spellPointed) (pc := 16) (n := (46)) (zd_dr dc_Te_spellPointed 9 rfl) rfl) ?_
  refine zd_ac (ok_callv (l := l) (B := B) (y := m_Te_spellPointed) (pc := 18) hG (ci := 7) rfl cf_Te_spellPointed_Te_append rfl (List.mem_of_getElem? (i := 841) (by decide +kernel)) (List.mem_of_getElem? (i := 843) (by decide +kernel)) (List.mem_of_getElem? (i := 20) (by decide +kernel)) (zd_dr dc_Te_spellPointed 10 rfl)) ?_
  refine zd_ac (ok_aload_n (l := l) (B := B) (y := m_Te_spellPointed) (pc := 21) (k := 0) rfl (zd_dr dc_Te_spellPointed 11 rfl)) ?_
  refine zd_ac (ok_iload_n (l := l) (B := B) (y := m_Te_spellPointed) (pc := 22) (k := 2) rfl (zd_dr dc_Te_spellPointed 12 rfl)) ?_
  refine zd_ac (ok_ineg (l := l) (B := B) (y := m_Te_spellPointed) (pc := 23) (zd_dr dc_Te_spellPointed 13 rfl)) ?_
  refine zd_ac (ok_callv (l := l) (B := B) (y := m_Te_spellPointed) (pc := 24) hG (ci := 7) rfl cf_Te_spellPointed_Te_appendZeros rfl (List.mem_of_getElem? (i := 855) (by decide +kernel)) (List.mem_of_getElem? (i := 857) (by decide +kernel)) (List.mem_of_getElem? (i := 23) (by decide +kernel)) (zd_dr dc_Te_spellPointed 14 rfl)) ?_
  refine zd_ac (ok_aload_n (l := l) (B := B) (y := m_Te_spellPointed) (pc := 27) (k := 0) rfl (zd_dr dc_Te_spellPointed 15 rfl)) ?_
  refine zd_ac (ok_aload_n (l := l) (B := B) (y := m_Te_spellPointed) (pc := 28) (k := 1) rfl (zd_dr dc_Te_spellPointed 16 rfl)) ?_
  refine zd_ac (ok_iconst (l := l) (B := B) (y := m_Te_spellPointed) (pc := 29) (n := (0)) (zd_dr dc_Te_spellPointed 17 rfl) rfl) ?_
  refine zd_ac (ok_iload_n (l := l) (B := B) (y := m_Te_spellPointed) (pc := 30) (k := 3) rfl (zd_dr dc_Te_spellPointed 18 rfl)) ?_
  refine zd_ac (ok_callv (l := l) (B := B) (y := m_Te_spellPointed) (pc := 31) hG (ci := 7) rfl cf_Te_spellPointed_Te_appendDigits rfl (List.mem_of_getElem? (i := 849) (by decide +kernel)) (List.mem_of_getElem? (i := 851) (by decide +kernel)) (List.mem_of_getElem? (i := 22) (by decide +kernel)) (zd_dr dc_Te_spellPointed 19 rfl)) ?_
  refine zd_ac (ok_vret (l := l) (B := B) (y := m_Te_spellPointed) (pc := 34) rfl (zd_dr dc_Te_spellPointed 20 rfl)) ?_
  refine zd_ac (ok_aload_n (l := l) (B := B) (y := m_Te_spellPointed) (pc := 35) (k := 0) rfl (zd_dr dc_Te_spellPointed 21 rfl)) ?_
  refine zd_ac (ok_aload_n (l := l) (B := B) (y := m_Te_spellPointed) (pc := 36) (k := 1) rfl (zd_dr dc_Te_spellPointed 22 rfl)) ?_
  refine zd_ac (ok_iconst (l := l) (B := B) (y := m_Te_spellPointed) (pc := 37) (n := (0)) (zd_dr dc_Te_spellPointed 23 rfl) rfl) ?_
  refine zd_ac (ok_iload_n (l := l) (B := B) (y := m_Te_spellPointed) (pc := 38) (k := 2) rfl (zd_dr dc_Te_spellPointed 24 rfl)) ?_
  refine zd_ac (ok_iload_n (l := l) (B := B) (y := m_Te_spellPointed) (pc := 39) (k := 3) rfl (zd_dr dc_Te_spellPointed 25 rfl)) ?_
  refine zd_ac (ok_calls (l := l) (B := B) (y := m_Te_spellPointed) (pc := 40) hG cf_Te_spellPointed_Ma_min rfl (List.mem_of_getElem? (i := 863) (by decide +kernel)) (List.mem_of_getElem? (i := 688) (by decide +kernel)) (List.mem_of_getElem? (i := 72) (by decide +kernel)) (zd_dr dc_Te_spellPointed 26 rfl)) ?_
  refine zd_ac (ok_callv (l := l) (B := B) (y := m_Te_spellPointed) (pc := 43) hG (ci := 7) rfl cf_Te_spellPointed_Te_appendDigits rfl (List.mem_of_getElem? (i := 849) (by decide +kernel)) (List.mem_of_getElem? (i := 851) (by decide +kernel)) (List.mem_of_getElem? (i := 22) (by decide +kernel)) (zd_dr dc_Te_spellPointed 27 rfl)) ?_
  refine zd_ac (ok_aload_n (l := l) (B := B) (y := m_Te_spellPointed) (pc := 46) (k := 0) rfl (zd_dr dc_Te_spellPointed 28 rfl)) ?_
  refine zd_ac (ok_iload_n (l := l) (B := B) (y := m_Te_spellPointed) (pc := 47) (k := 2) rfl (zd_dr dc_Te_spellPointed 29 rfl)) ?_
  refine zd_ac (ok_iload_n (l := l) (B := B) (y := m_Te_spellPointed) (pc := 48) (k := 3) rfl (zd_dr dc_Te_spellPointed 30 rfl)) ?_
  refine zd_ac (ok_isub (l := l) (B := B) (y := m_Te_spellPointed) (pc := 49) (zd_dr dc_Te_spellPointed 31 rfl)) ?_
  refine zd_ac (ok_callv (l := l) (B := B) (y := m_Te_spellPointed) (pc := 50) hG (ci := 7) rfl cf_Te_spellPointed_Te_appendZeros rfl (List.mem_of_getElem? (i := 855) (by decide +kernel)) (List.mem_of_getElem? (i := 857) (by decide +kernel)) (List.mem_of_getElem? (i := 23) (by decide +kernel)) (zd_dr dc_Te_spellPointed 32 rfl)) ?_
  refine zd_ac (ok_iload_n (l := l) (B := B) (y := m_Te_spellPointed) (pc := 53) (k := 2) rfl (zd_dr dc_Te_spellPointed 33 rfl)) ?_
  refine zd_ac (ok_iload_n (l := l) (B := B) (y := m_Te_spellPointed) (pc := 54) (k := 3) rfl (zd_dr dc_Te_spellPointed 34 rfl)) ?_
  refine zd_ac (ok_icmp_ge (l := l) (B := B) (y := m_Te_spellPointed) (pc := 55) (zd_dr dc_Te_spellPointed 35 rfl) (by decide)) ?_
  refine zd_ac (ok_aload_n (l := l) (B := B) (y := m_Te_spellPointed) (pc := 58) (k := 0) rfl (zd_dr dc_Te_spellPointed 36 rfl)) ?_
  refine zd_ac (ok_bipush (l := l) (B := B) (y := m_Te_spellPointed) (pc := 59) (n := (46)) (zd_dr dc_Te_spellPointed 37 rfl) rfl) ?_
  refine zd_ac (ok_callv (l := l) (B := B) (y := m_Te_spellPointed) (pc := 61) hG (ci := 7) rfl cf_Te_spellPointed_Te_append rfl (List.mem_of_getElem? (i := 841) (by decide +kernel)) (List.mem_of_getElem? (i := 843) (by decide +kernel)) (List.mem_of_getElem? (i := 20) (by decide +kernel)) (zd_dr dc_Te_spellPointed 38 rfl)) ?_
  refine zd_ac (ok_aload_n (l := l) (B := B) (y := m_Te_spellPointed) (pc := 64) (k := 0) rfl (zd_dr dc_Te_spellPointed 39 rfl)) ?_
  refine zd_ac (ok_aload_n (l := l) (B := B) (y := m_Te_spellPointed) (pc := 65) (k := 1) rfl (zd_dr dc_Te_spellPointed 40 rfl)) ?_
  refine zd_ac (ok_iload_n (l := l) (B := B) (y := m_Te_spellPointed) (pc := 66) (k := 2) rfl (zd_dr dc_Te_spellPointed 41 rfl)) ?_
  refine zd_ac (ok_iload_n (l := l) (B := B) (y := m_Te_spellPointed) (pc := 67) (k := 3) rfl (zd_dr dc_Te_spellPointed 42 rfl)) ?_
  refine zd_ac (ok_callv (l := l) (B := B) (y := m_Te_spellPointed) (pc := 68) hG (ci := 7) rfl cf_Te_spellPointed_Te_appendDigits rfl (List.mem_of_getElem? (i := 849) (by decide +kernel)) (List.mem_of_getElem? (i := 851) (by decide +kernel)) (List.mem_of_getElem? (i := 22) (by decide +kernel)) (zd_dr dc_Te_spellPointed 43 rfl)) ?_
  refine zd_ac (ok_vret (l := l) (B := B) (y := m_Te_spellPointed) (pc := 71) rfl (zd_dr dc_Te_spellPointed 44 rfl)) ?_
  exact zd_an
def dl_Te_spellZero : List (Nat × Instr × Nat) := [(0, .aload_n 0, 1), (1, .bipush (48), 2), (3, .invokevirtual 48, 3), (6, .iload_n 1, 1), (7, .ifCond .le (14), 3), (10, .aload_n 0, 1), (11, .bipush (46), 2), (13, .invokevirtual 48, 3), (16, .aload_n 0, 1), (17, .iload_n 1, 1), (18, .invokevirtual 85, 3), (21, .return_, 1)]
theorem dc_Te_spellZero : ∀ q ∈ dl_Te_spellZero, decode (zd_yb m_Te_spellZero) q.1 = .ok q.2 := by decide +kernel
def cd_Te_spellZero (l : Launch) (B : zd_B) : List (Nat × zd_S) := [(0, oc_aload 0 1), (1, oc_ci (48) 3), (3, oc_callv l B 7 m_Te_append 1 6), (6, oc_iload 1 7), (7, oc_if_le 21 10), (10, oc_aload 0 11), (11, oc_ci (46) 13), (13, oc_callv l B 7 m_Te_append 1 16), (16, oc_aload 0 17), (17, oc_iload 1 18), (18, oc_callv l B 7 m_Te_appendZeros 1 21), (21, oc_vret)]
set_option maxRecDepth 20000 in
theorem ok_Te_spellZero {l : Launch} {B : zd_B} (hG : zd_G B) (hl : l.stackTraces = false) : ∀ q ∈ cd_Te_spellZero l B, zd_ok l B m_Te_spellZero q.1 q.2 := by
  unfold cd_Te_spellZero
  refine zd_ac (ok_aload_n (l := l) (B := B) (y := m_Te_spellZero) (pc := 0) (k := 0) rfl (zd_dr dc_Te_spellZero 0 rfl)) ?_
  refine zd_ac (ok_bipush (l := l) (B := B) (y := m_Te_spellZero) (pc := 1) (n := (48)) (zd_dr dc_Te_spellZero 1 rfl) rfl) ?_
  refine zd_ac (ok_callv (l := l) (B := B) (y := m_Te_spellZero) (pc := 3) hG (ci := 7) rfl cf_Te_spellZero_Te_append rfl (List.mem_of_getElem? (i := 841) (by decide +kernel)) (List.mem_of_getElem? (i := 843) (by decide +kernel)) (List.mem_of_getElem? (i := 20) (by decide +kernel)) (zd_dr dc_Te_spellZero 2 rfl)) ?_
  refine zd_ac (ok_iload_n (l := l) (B := B) (y := m_Te_spellZero) (pc := 6) (k := 1) rfl (zd_dr dc_Te_spellZero 3 rfl)) ?_
  refine zd_ac (ok_if_le (l := l) (B := B) (y := m_Te_spellZero) (pc := 7) (zd_dr dc_Te_spellZero 4 rfl) (by decide)) ?_
  refine zd_ac (ok_aload_n (l := l) (B := B) (y := m_Te_spellZero) (pc := 10) (k := 0) rfl (zd_dr dc_Te_spellZero 5 rfl)) ?_
  refine zd_ac (ok_bipush (l := l) (B := B) (y := m_Te_spellZero) (pc := 11) (n := (46)) (zd_dr dc_Te_spellZero 6 rfl) rfl) ?_
  refine zd_ac (ok_callv (l := l) (B := B) (y := m_Te_spellZero) (pc := 13) hG (ci := 7) rfl cf_Te_spellZero_Te_append rfl (List.mem_of_getElem? (i := 841) (by decide +kernel)) (List.mem_of_getElem? (i := 843) (by decide +kernel)) (List.mem_of_getElem? (i := 20) (by decide +kernel)) (zd_dr dc_Te_spellZero 7 rfl)) ?_
  refine zd_ac (ok_aload_n (l := l) (B := B) (y := m_Te_spellZero) (pc := 16) (k := 0) rfl (zd_dr dc_Te_spellZero 8 rfl)) ?_
  refine zd_ac (ok_iload_n (l := l) (B := B) (y := m_Te_spellZero) (pc := 17) (k := 1) rfl (zd_dr dc_Te_spellZero 9 rfl)) ?_
  refine zd_ac (ok_callv (l := l) (B := B) (y := m_Te_spellZero) (pc := 18) hG (ci := 7) rfl cf_Te_spellZero_Te_appendZeros rfl (List.mem_of_getElem? (i := 855) (by decide +kernel)) (List.mem_of_getElem? (i := 857) (by decide +kernel)) (List.mem_of_getElem? (i := 23) (by decide +kernel)) (zd_dr dc_Te_spellZero 10 rfl)) ?_
  refine zd_ac (ok_vret (l := l) (B := B) (y := m_Te_spellZero) (pc := 21) rfl (zd_dr dc_Te_spellZero 11 rfl)) ?_
  exact zd_an
def dl_Dr_fill : List (Nat × Instr × Nat) := [(0, .aload_n 1, 1), (1, .aload_n 0, 1), (2, .getfield 43, 3), (5, .invokevirtual 62, 3), (8, .iconst (0), 1), (9, .istore_n 2, 1), (10, .aload_n 0, 1), (11, .getfield 46, 3), (14, .iconst (1), 1), (15, .isub, 1), (16, .istore_n 3, 1), (17, .iload_n 3, 1), (18, .aload_n 0, 1), (19, .getfield 29, 3), (22, .if_icmp .lt (37), 3), (25, .aload_n 0, 1), (26, .getfield 9, 3), (29, .iload_n 3, 1), (30, .caload, 1), (31, .bipush (46), 2), (33, .if_icmp .eq (20), 3), (36, .aload_n 1, 1), (37, .iload_n 2, 1), (38, .aload_n 0, 1), (39, .getfield 9, 3), (42, .iload_n 3, 1), (43, .caload, 1), (44, .bipush (48), 2), (46, .isub, 1), (47, .invokevirtual 68, 3), (50, .iinc 2 (1), 3), (53, .iinc 3 (-1), 3), (56, .goto (-39), 3), (59, .aload_n 1, 1), (60, .invokevirtual 72, 3), (63, .return_, 1)]
theorem dc_Dr_fill : ∀ q ∈ dl_Dr_fill, decode (zd_yb m_Dr_fill) q.1 = .ok q.2 := by decide +kernel
def cd_Dr_fill (l : Launch) (B : zd_B) : List (Nat × zd_S) := [(0, oc_aload 1 1), (1, oc_aload 0 2), (2, oc_getf B 3 5 5), (5, oc_callv l B 4 m_Na_openDigits 1 8), (8, oc_ci (0) 9), (9, oc_istore 2 10), (10, oc_aload 0 11), (11, oc_getf B 3 4 14), (14, oc_ci (1) 15), (15, oc_isub 16), (16, oc_istore 3 17), (17, oc_iload 3 18), (18, oc_aload 0 19), (19, oc_getf B 3 3 22), (22, oc_icmp_lt 59 25), (25, oc_aload 0 26), (26, oc_getf B 3 0 29), (29, oc_iload 3 30), (30, oc_caload B 31), (31, oc_ci (46) 33), (33, oc_icmp_eq 53 36), (36, oc_aload 1 37), (37, oc_iload 2 38), (38, oc_aload 0 39), (39, oc_getf B 3 0 42), (42, oc_iload 3 43), (43, oc_caload B 44), (44, oc_ci (48) 46), (46, oc_isub 47), (47, oc_callv l B 4 m_Na_setDigit 2 50), (50, oc_iinc 2 (1) 53), (53, oc_iinc 3 (-1) 56), (56, oc_goto 17), (59, oc_aload 1 60), (60, oc_callv l B 4 m_Na_trim 0 63), (63, oc_vret)]
set_option maxRecDepth 20000 in
theorem ok_Dr_fill {l : Launch} {B : zd_B} (hG : zd_G B) (hl : l.stackTraces = false) : ∀ q ∈ cd_Dr_fill l B, zd_ok l B m_Dr_fill q.1 q.2 := by
  unfold cd_Dr_fill
  refine zd_ac (ok_aload_n (l := l) (B := B) (y := m_Dr_fill) (pc := 0) (k := 1) rfl (zd_dr dc_Dr_fill 0 rfl)) ?_
  refine zd_ac (ok_aload_n (l := l) (B := B) (y := m_Dr_fill) (pc := 1) (k := 0) rfl (zd_dr dc_Dr_fill 1 rfl)) ?_
  refine zd_ac (ok_getf (l := l) (B := B) (y := m_Dr_fill) (pc := 2) hG (C := zR3) (T := zT3) (N := 8) (ci := 3) (k := 5) rfl zl3 (by decide) (List.mem_of_getElem? (i := 137) (by decide +kernel)) (zd_dr dc_Dr_fill 2 rfl)) ?_
  refine zd_ac (ok_callv (l := l) (B := B) (y := m_Dr_fill) (pc := 5) hG (ci := 4) rfl cf_Dr_fill_Na_openDigits rfl (List.mem_of_getElem? (i := 437) (by decide +kernel)) (List.mem_of_getElem? (i := 438) (by decide +kernel)) (List.mem_of_getElem? (i := 439) (by decide +kernel)) (zd_dr dc_Dr_fill 3 rfl)) ?_
  refine zd_ac (ok_iconst (l := l) (B := B) (y := m_Dr_fill) (pc := 8) (n := (0)) (zd_dr dc_Dr_fill 4 rfl) rfl) ?_
  refine zd_ac (ok_istore_n (l := l) (B := B) (y := m_Dr_fill) (pc := 9) (k := 2) rfl (zd_dr dc_Dr_fill 5 rfl) (by decide)) ?_
  refine zd_ac (ok_aload_n (l := l) (B := B) (y := m_Dr_fill) (pc := 10) (k := 0) rfl (zd_dr dc_Dr_fill 6 rfl)) ?_
  refine zd_ac (ok_getf (l := l) (B := B) (y := m_Dr_fill) (pc := 11) hG (C := zR3) (T := zT3) (N := 8) (ci := 3) (k := 4) rfl zl3 (by decide) (List.mem_of_getElem? (i := 136) (by decide +kernel)) (zd_dr dc_Dr_fill 7 rfl)) ?_
  refine zd_ac (ok_iconst (l := l) (B := B) (y := m_Dr_fill) (pc := 14) (n := (1)) (zd_dr dc_Dr_fill 8 rfl) rfl) ?_
  refine zd_ac (ok_isub (l := l) (B := B) (y := m_Dr_fill) (pc := 15) (zd_dr dc_Dr_fill 9 rfl)) ?_
  refine zd_ac (ok_istore_n (l := l) (B := B) (y := m_Dr_fill) (pc := 16) (k := 3) rfl (zd_dr dc_Dr_fill 10 rfl) (by decide)) ?_
  refine zd_ac (ok_iload_n (l := l) (B := B) (y := m_Dr_fill) (pc := 17) (k := 3) rfl (zd_dr dc_Dr_fill 11 rfl)) ?_
  refine zd_ac (ok_aload_n (l := l) (B := B) (y := m_Dr_fill) (pc := 18) (k := 0) rfl (zd_dr dc_Dr_fill 12 rfl)) ?_
  refine zd_ac (ok_getf (l := l) (B := B) (y := m_Dr_fill) (pc := 19) hG (C := zR3) (T := zT3) (N := 8) (ci := 3) (k := 3) rfl zl3 (by decide) (List.mem_of_getElem? (i := 135) (by decide +kernel)) (zd_dr dc_Dr_fill 13 rfl)) ?_
  refine zd_ac (ok_icmp_lt (l := l) (B := B) (y := m_Dr_fill) (pc := 22) (zd_dr dc_Dr_fill 14 rfl) (by decide)) ?_
  refine zd_ac (ok_aload_n (l := l) (B := B) (y := m_Dr_fill) (pc := 25) (k := 0) rfl (zd_dr dc_Dr_fill 15 rfl)) ?_
  refine zd_ac (ok_getf (l := l) (B := B) (y := m_Dr_fill) (pc := 26) hG (C := zR3) (T := zT3) (N := 8) (ci := 3) (k := 0) rfl zl3 (by decide) (List.mem_of_getElem? (i := 132) (by decide +kernel)) (zd_dr dc_Dr_fill 16 rfl)) ?_
  refine zd_ac (ok_iload_n (l := l) (B := B) (y := m_Dr_fill) (pc := 29) (k := 3) rfl (zd_dr dc_Dr_fill 17 rfl)) ?_
  refine zd_ac (ok_caload (l := l) (B := B) (y := m_Dr_fill) (pc := 30) hG (zd_dr dc_Dr_fill 18 rfl)) ?_
  refine zd_ac (ok_bipush (l := l) (B := B) (y := m_Dr_fill) (pc := 31) (n := (46)) (zd_dr dc_Dr_fill 19 rfl) rfl) ?_
  refine zd_ac (ok_icmp_eq (l := l) (B := B) (y := m_Dr_fill) (pc := 33) (zd_dr dc_Dr_fill 20 rfl) (by decide)) ?_
  refine zd_ac (ok_aload_n (l := l) (B := B) (y := m_Dr_fill) (pc := 36) (k := 1) rfl (zd_dr dc_Dr_fill 21 rfl)) ?_
  refine zd_ac (ok_iload_n (l := l) (B := B) (y := m_Dr_fill) (pc := 37) (k := 2) rfl (zd_dr dc_Dr_fill 22 rfl)) ?_
  refine zd_ac (ok_aload_n (l := l) (B := B) (y := m_Dr_fill) (pc := 38) (k := 0) rfl (zd_dr dc_Dr_fill 23 rfl)) ?_
  refine zd_ac (ok_getf (l := l) (B := B) (y := m_Dr_fill) (pc := 39) hG (C := zR3) (T := zT3) (N := 8) (ci := 3) (k := 0) rfl zl3 (by decide) (List.mem_of_getElem? (i := 132) (by decide +kernel)) (zd_dr dc_Dr_fill 24 rfl)) ?_
  refine zd_ac (ok_iload_n (l := l) (B := B) (y := m_Dr_fill) (pc := 42) (k := 3) rfl (zd_dr dc_Dr_fill 25 rfl)) ?_
  refine zd_ac (ok_caload (l := l) (B := B) (y := m_Dr_fill) (pc := 43) hG (zd_dr dc_Dr_fill 26 rfl)) ?_
  refine zd_ac (ok_bipush (l := l) (B := B) (y := m_Dr_fill) (pc := 44) (n := (48)) (zd_dr dc_Dr_fill 27 rfl) rfl) ?_
  refine zd_ac (ok_isub (l := l) (B := B) (y := m_Dr_fill) (pc := 46) (zd_dr dc_Dr_fill 28 rfl)) ?_
  refine zd_ac (ok_callv (l := l) (B := B) (y := m_Dr_fill) (pc := 47) hG (ci := 4) rfl cf_Dr_fill_Na_setDigit rfl (List.mem_of_getElem? (i := 448) (by decide +kernel)) (List.mem_of_getElem? (i := 449) (by decide +kernel)) (List.mem_of_getElem? (i := 450) (by decide +kernel)) (zd_dr dc_Dr_fill 29 rfl)) ?_
  refine zd_ac (ok_iinc (l := l) (B := B) (y := m_Dr_fill) (pc := 50) (zd_dr dc_Dr_fill 30 rfl) (by decide) rfl) ?_
  refine zd_ac (ok_iinc (l := l) (B := B) (y := m_Dr_fill) (pc := 53) (zd_dr dc_Dr_fill 31 rfl) (by decide) rfl) ?_
  refine zd_ac (ok_goto (l := l) (B := B) (y := m_Dr_fill) (pc := 56) (zd_dr dc_Dr_fill 32 rfl) (by decide)) ?_
  refine zd_ac (ok_aload_n (l := l) (B := B) (y := m_Dr_fill) (pc := 59) (k := 1) rfl (zd_dr dc_Dr_fill 33 rfl)) ?_
  refine zd_ac (ok_callv (l := l) (B := B) (y := m_Dr_fill) (pc := 60) hG (ci := 4) rfl cf_Dr_fill_Na_trim rfl (List.mem_of_getElem? (i := 454) (by decide +kernel)) (List.mem_of_getElem? (i := 455) (by decide +kernel)) (List.mem_of_getElem? (i := 456) (by decide +kernel)) (zd_dr dc_Dr_fill 34 rfl)) ?_
  refine zd_ac (ok_vret (l := l) (B := B) (y := m_Dr_fill) (pc := 63) rfl (zd_dr dc_Dr_fill 35 rfl)) ?_
  exact zd_an

/-! written by gencode.py: code of Text for its machine -/
def ct_Te_spell (l : Launch) (B : zd_B) (E : tE) : List (Nat × zt_S) := [(0, tm_p (oc_aload 1 1)), (1, tm_getc E 0 4), (4, tm_callv l B E 4 m_Na_digits 0 7), (7, tm_p (oc_istore 3 8)), (8, tm_p (oc_iload 3 9)), (9, tm_p (oc_ci (1) 10)), (10, tm_p (oc_isub 11)), (11, tm_p (oc_aload 1 12)), (12, tm_getc E 2 15), (15, tm_p (oc_isub 16)), (16, tm_p (oc_istore 4 18)), (18, tm_p (oc_aload 0 19)), (19, tm_p (oc_iload 3 20)), (20, tm_p (oc_aload 1 21)), (21, tm_getc E 2 24), (24, tm_calls l B E m_Ma_abs 1 27), (27, tm_p (oc_iadd 28)), (28, tm_callv l B E 7 m_Te_restart 1 31), (31, tm_p (oc_aload 1 32)), (32, tm_getc E 1 35), (35, tm_p (oc_if_eq 44 38)), (38, tm_p (oc_aload 0 39)), (39, tm_p (oc_ci (45) 41)), (41, tm_callv l B E 7 m_Te_append 1 44), (44, tm_p (oc_iload 2 45)), (45, tm_p (oc_ci (1) 46)), (46, tm_p (oc_icmp_ne 64 49)), (49, tm_p (oc_aload 1 50)), (50, tm_getc E 2 53), (53, tm_p (oc_if_gt 64 56)), (56, tm_p (oc_aload 0 57)), (57, tm_p (oc_aload 1 58)), (58, tm_callv l B E 7 m_Te_spellInteger 1 61), (61, tm_p (oc_goto 195)), (64, tm_p (oc_iload 2 65)), (65, tm_p (oc_ci (1) 66)), (66, tm_p (oc_icmp_eq 90 69)), (69, tm_p (oc_aload 1 70)), (70, tm_getc E 2 73), (73, tm_p (oc_if_eq 90 76)), (76, tm_p (oc_aload 1 77)), (77, tm_getc E 2 80), (80, tm_p (oc_if_le 107 83)), (83, tm_p (oc_iload 4 85)), (85, tm_p (oc_ci (-6) 87)), (87, tm_p (oc_icmp_lt 107 90)), (90, tm_p (oc_aload 0 91)), (91, tm_p (oc_aload 1 92)), (92, tm_getc E 0 95), (95, tm_p (oc_iload 3 96)), (96, tm_p (oc_aload 1 97)), (97, tm_getc E 2 100), (100, tm_p (oc_isub 101)), (101, tm_callv l B E 7 m_Te_spellPointed 2 104), (104, tm_p (oc_goto 195)), (107, tm_p (oc_iload 2 108)), (108, tm_p (oc_if_ne 129 111)), (111, tm_p (oc_aload 0 112)), (112, tm_p (oc_aload 1 113)), (113, tm_getc E 0 116), (116, tm_p (oc_ci (1) 117)), (117, tm_callv l B E 7 m_Te_spellPointed 2 120), (120, tm_p (oc_aload 0 121)), (121, tm_p (oc_iload 4 123)), (123, tm_callv l B E 7 m_Te_appendPower 1 126), (126, tm_p (oc_goto 195)), (129, tm_p (oc_aload 1 130)), (130, tm_getc E 0 133), (133, tm_callv l B E 4 m_Na_isZero 0 136), (136, tm_p (oc_if_eq 166 139)), (139, tm_p (oc_iload 4 141)), (141, tm_p (oc_ineg 142)), (142, tm_p (oc_ci (3) 143)), (143, tm_calls l B E m_Ma_floorMod 2 146), (146, tm_p (oc_istore 5 148)), (148, tm_p (oc_aload 0 149)), (149, tm_p (oc_iload 5 151)), (151, tm_callv l B E 7 m_Te_spellZero 1 154), (154, tm_p (oc_aload 0 155)), (155, tm_p (oc_iload 4 157)), (157, tm_p (oc_iload 5 159)), (159, tm_p (oc_iadd 160)), (160, tm_callv l B E 7 m_Te_appendPower 1 163), (163, tm_p (oc_goto 195)), (166, tm_p (oc_iload 4 168)), (168, tm_p (oc_ci (3) 169)), (169, tm_calls l B E m_Ma_floorMod 2 172), (172, tm_p (oc_istore 5 174)), (174, tm_p (oc_aload 0 175)), (175, tm_p (oc_aload 1 176)), (176, tm_getc E 0 179), (179, tm_p (oc_iload 5 181)), (181, tm_p (oc_ci (1) 182)), (182, tm_p (oc_iadd 183)), (183, tm_callv l B E 7 m_Te_spellPointed 2 186), (186, tm_p (oc_aload 0 187)), (187, tm_p (oc_iload 4 189)), (189, tm_p (oc_iload 5 191)), (191, tm_p (oc_isub 192)), (192, tm_callv l B E 7 m_Te_appendPower 1 195), (195, tm_p (oc_aload 0 196)), (196, tm_getl 1 199), (199, tm_iret)]
set_option maxRecDepth 20000 in
theorem okt_Te_spell {l : Launch} {B : zd_B} {E : tE} (hG : zd_G B) (hl : l.stackTraces = false) : ∀ q ∈ ct_Te_spell l B E, zt_ok l B E m_Te_spell q.1 q.2 := by
  unfold ct_Te_spell
  refine zt_ac (tm_pk nt_aload (ok_aload_n (l := l) (B := B) (y := m_Te_spell) (pc := 0) (k := 1) rfl (zd_dr dc_Te_spell 0 rfl))) ?_
  refine zt_ac (ok_tgetc (ok_getf (l := l) (B := B) (y := m_Te_spell) (pc := 1) hG (C := zR1) (T := zT1) (N := 3) (ci := 1) (k := 0) rfl zl1 (by decide) (List.mem_of_getElem? (i := 108) (by decide +kernel)) (zd_dr dc_Te_spell 1 rfl))) ?_
  refine zt_ac (ok_tcallv (ok_callv (l := l) (B := B) (y := m_Te_spell) (pc := 4) hG (ci := 4) rfl cf_Te_spell_Na_digits rfl (List.mem_of_getElem? (i := 833) (by decide +kernel)) (List.mem_of_getElem? (i := 474) (by decide +kernel)) (List.mem_of_getElem? (i := 475) (by decide +kernel)) (zd_dr dc_Te_spell 2 rfl))) ?_
  refine zt_ac (tm_pk nt_istore (ok_istore_n (l := l) (B := B) (y := m_Te_spell) (pc := 7) (k := 3) rfl (zd_dr dc_Te_spell 3 rfl) (by decide))) ?_
  refine zt_ac (tm_pk nt_iload (ok_iload_n (l := l) (B := B) (y := m_Te_spell) (pc := 8) (k := 3) rfl (zd_dr dc_Te_spell 4 rfl))) ?_
  refine zt_ac (tm_pk nt_ci (ok_iconst (l := l) (B := B) (y := m_Te_spell) (pc := 9) (n := (1)) (zd_dr dc_Te_spell 5 rfl) rfl)) ?_
  refine zt_ac (tm_pk nt_isub (ok_isub (l := l) (B := B) (y := m_Te_spell) (pc := 10) (zd_dr dc_Te_spell 6 rfl))) ?_
  refine zt_ac (tm_pk nt_aload (ok_aload_n (l := l) (B := B) (y := m_Te_spell) (pc := 11) (k := 1) rfl (zd_dr dc_Te_spell 7 rfl))) ?_
  refine zt_ac (ok_tgetc (ok_getf (l := l) (B := B) (y := m_Te_spell) (pc := 12) hG (C := zR1) (T := zT1) (N := 3) (ci := 1) (k := 2) rfl zl1 (by decide) (List.mem_of_getElem? (i := 115) (by decide +kernel)) (zd_dr dc_Te_spell 8 rfl))) ?_
  refine zt_ac (tm_pk nt_isub (ok_isub (l := l) (B := B) (y := m_Te_spell) (pc := 15) (zd_dr dc_Te_spell 9 rfl))) ?_
  refine zt_ac (tm_pk nt_istore (ok_istore (l := l) (B := B) (y := m_Te_spell) (pc := 16) (zd_dr dc_Te_spell 10 rfl) (by decide))) ?_
  refine zt_ac (tm_pk nt_aload (ok_aload_n (l := l) (B := B) (y := m_Te_spell) (pc := 18) (k := 0) rfl (zd_dr dc_Te_spell 11 rfl))) ?_
  refine zt_ac (tm_pk nt_iload (ok_iload_n (l := l) (B := B) (y := m_Te_spell) (pc := 19) (k := 3) rfl (zd_dr dc_Te_spell 12 rfl))) ?_
  refine zt_ac (tm_pk nt_aload (ok_aload_n (l := l) (B := B) (y := m_Te_spell) (pc := 20) (k := 1) rfl (zd_dr dc_Te_spell 13 rfl))) ?_
  refine zt_ac (ok_tgetc (ok_getf (l := l) (B := B) (y := m_Te_spell) (pc := 21) hG (C := zR1) (T := zT1) (N := 3) (ci := 1) (k := 2) rfl zl1 (by decide) (List.mem_of_getElem? (i := 115) (by decide +kernel)) (zd_dr dc_Te_spell 14 rfl))) ?_
  refine zt_ac (ok_tcalls (ok_calls (l := l) (B := B) (y := m_Te_spell) (pc := 24) hG cf_Te_spell_Ma_abs rfl (List.mem_of_getElem? (i := 834) (by decide +kernel)) (List.mem_of_getElem? (i := 835) (by decide +kernel)) (List.mem_of_getElem? (i := 72) (by decide +kernel)) (zd_dr dc_Te_spell 15 rfl))) ?_
  refine zt_ac (tm_pk nt_iadd (ok_iadd (l := l) (B := B) (y := m_Te_spell) (pc := 27) (zd_dr dc_Te_spell 16 rfl))) ?_
  refine zt_ac (ok_tcallv (ok_callv (l := l) (B := B) (y := m_Te_spell) (pc := 28) hG (ci := 7) rfl cf_Te_spell_Te_restart rfl (List.mem_of_getElem? (i := 837) (by decide +kernel)) (List.mem_of_getElem? (i := 839) (by decide +kernel)) (List.mem_of_getElem? (i := 19) (by decide +kernel)) (zd_dr dc_Te_spell 17 rfl))) ?_
  refine zt_ac (tm_pk nt_aload (ok_aload_n (l := l) (B := B) (y := m_Te_spell) (pc := 31) (k := 1) rfl (zd_dr dc_Te_spell 18 rfl))) ?_
  refine zt_ac (ok_tgetc (ok_getf (l := l) (B := B) (y := m_Te_spell) (pc := 32) hG (C := zR1) (T := zT1) (N := 3) (ci := 1) (k := 1) rfl zl1 (by decide) (List.mem_of_getElem? (i := 113) (by decide +kernel)) (zd_dr dc_Te_spell 19 rfl))) ?_
  refine zt_ac (tm_pk nt_if_eq (ok_if_eq (l := l) (B := B) (y := m_Te_spell) (pc := 35) (zd_dr dc_Te_spell 20 rfl) (by decide))) ?_
  refine zt_ac (tm_pk nt_aload (ok_aload_n (l := l) (B := B) (y := m_Te_spell) (pc := 38) (k := 0) rfl (zd_dr dc_Te_spell 21 rfl))) ?_
  refine zt_ac (tm_pk nt_ci (ok_bipush (l := l) (B := B) (y := m_Te_spell) (pc := 39) (n := (45)) (zd_dr dc_Te_spell 22 rfl) rfl)) ?_
  refine zt_ac (ok_tcallv (ok_callv (l := l) (B := B) (y := m_Te_spell) (pc := 41) hG (ci := 7) rfl cf_Te_spell_Te_append rfl (List.mem_of_getElem? (i := 841) (by decide +kernel)) (List.mem_of_getElem? (i := 843) (by decide +kernel)) (List.mem_of_getElem? (i := 20) (by decide +kernel)) (zd_dr dc_Te_spell 23 rfl))) ?_
  refine zt_ac (tm_pk nt_iload (ok_iload_n (l := l) (B := B) (y := m_Te_spell) (pc := 44) (k := 2) rfl (zd_dr dc_Te_spell 24 rfl))) ?_
  refine zt_ac (tm_pk nt_ci (ok_iconst (l := l) (B := B) (y := m_Te_spell) (pc := 45) (n := (1)) (zd_dr dc_Te_spell 25 rfl) rfl)) ?_
  refine zt_ac (tm_pk nt_icmp_ne (ok_icmp_ne (l := l) (B := B) (y := m_Te_spell) (pc := 46) (zd_dr dc_Te_spell 26 rfl) (by decide))) ?_
  refine zt_ac (tm_pk nt_aload (ok_aload_n (l := l) (B := B) (y := m_Te_spell) (pc := 49) (k := 1) rfl (zd_dr dc_Te_spell 27 rfl))) ?_
  refine zt_ac (ok_tgetc (ok_getf (l := l) (B := B) (y := m_Te_spell) (pc := 50) hG (C := zR1) (T := zT1) (N := 3) (ci := 1) (k := 2) rfl zl1 (by decide) (List.mem_of_getElem? (i := 115) (by decide +kernel)) (zd_dr dc_Te_spell 28 rfl))) ?_
  refine zt_ac (tm_pk nt_if_gt (ok_if_gt (l := l) (B := B) (y := m_Te_spell) (pc := 53) (zd_dr dc_Te_spell 29 rfl) (by decide))) ?_
  refine zt_ac (tm_pk nt_aload (ok_aload_n (l := l) (B := B) (y := m_Te_spell) (pc := 56) (k := 0) rfl (zd_dr dc_Te_spell 30 rfl))) ?_
  refine zt_ac (tm_pk nt_aload (ok_aload_n (l := l) (B := B) (y := m_Te_spell) (pc := 57) (k := 1) rfl (zd_dr dc_Te_spell 31 rfl))) ?_
  refine zt_ac (ok_tcallv (ok_callv (l := l) (B := B) (y := m_Te_spell) (pc := 58) hG (ci := 7) rfl cf_Te_spell_Te_spellInteger rfl (List.mem_of_getElem? (i := 845) (by decide +kernel)) (List.mem_of_getElem? (i := 847) (by decide +kernel)) (List.mem_of_getElem? (i := 21) (by decide +kernel)) (zd_dr dc_Te_spell 32 rfl))) ?_
  refine zt_ac (tm_pk nt_goto (ok_goto (l := l) (B := B) (y := m_Te_spell) (pc := 61) (zd_dr dc_Te_spell 33 rfl) (by decide))) ?_
  refine zt_ac (tm_pk nt_iload (ok_iload_n (l := l) (B := B) (y := m_Te_spell) (pc := 64) (k := 2) rfl (zd_dr dc_Te_spell 34 rfl))) ?_
  refine zt_ac (tm_pk nt_ci (ok_iconst (l := l) (B := B) (y := m_Te_spell) (pc := 65) (n := (1)) (zd_dr dc_Te_spell 35 rfl) rfl)) ?_
  refine zt_ac (tm_pk nt_icmp_eq (ok_icmp_eq (l := l) (B := B) (y := m_Te_spell) (pc := 66) (zd_dr dc_Te_spell 36 rfl) (by decide))) ?_
  refine zt_ac (tm_pk nt_aload (ok_aload_n (l := l) (B := B) (y := m_Te_spell) (pc := 69) (k := 1) rfl (zd_dr dc_Te_spell 37 rfl))) ?_
  refine zt_ac (ok_tgetc (ok_getf (l := l) (B := B) (y := m_Te_spell) (pc := 70) hG (C := zR1) (T := zT1) (N := 3) (ci := 1) (k := 2) rfl zl1 (by decide) (List.mem_of_getElem? (i := 115) (by decide +kernel)) (zd_dr dc_Te_spell 38 rfl))) ?_
  refine zt_ac (tm_pk nt_if_eq (ok_if_eq (l := l) (B := B) (y := m_Te_spell) (pc := 73) (zd_dr dc_Te_spell 39 rfl) (by decide))) ?_
  refine zt_ac (tm_pk nt_aload (ok_aload_n (l := l) (B := B) (y := m_Te_spell) (pc := 76) (k := 1) rfl (zd_dr dc_Te_spell 40 rfl))) ?_
  refine zt_ac (ok_tgetc (ok_getf (l := l) (B := B) (y := m_Te_spell) (pc := 77) hG (C := zR1) (T := zT1) (N := 3) (ci := 1) (k := 2) rfl zl1 (by decide) (List.mem_of_getElem? (i := 115) (by decide +kernel)) (zd_dr dc_Te_spell 41 rfl))) ?_
  refine zt_ac (tm_pk nt_if_le (ok_if_le (l := l) (B := B) (y := m_Te_spell) (pc := 80) (zd_dr dc_Te_spell 42 rfl) (by decide))) ?_
  refine zt_ac (tm_pk nt_iload (ok_iload (l := l) (B := B) (y := m_Te_spell) (pc := 83) (zd_dr dc_Te_spell 43 rfl))) ?_
  refine zt_ac (tm_pk nt_ci (ok_bipush (l := l) (B := B) (y := m_Te_spell) (pc := 85) (n := (-6)) (zd_dr dc_Te_spell 44 rfl) rfl)) ?_
  refine zt_ac (tm_pk nt_icmp_lt (ok_icmp_lt (l := l) (B := B) (y := m_Te_spell) (pc := 87) (zd_dr dc_Te_spell 45 rfl) (by decide))) ?_
  refine zt_ac (tm_pk nt_aload (ok_aload_n (l := l) (B := B) (y := m_Te_spell) (pc := 90) (k := 0) rfl (zd_dr dc_Te_spell 46 rfl))) ?_
  refine zt_ac (tm_pk nt_aload (ok_aload_n (l := l) (B := B) (y := m_Te_spell) (pc := 91) (k := 1) rfl (zd_dr dc_Te_spell 47 rfl))) ?_
  refine zt_ac (ok_tgetc (ok_getf (l := l) (B := B) (y := m_Te_spell) (pc := 92) hG (C := zR1) (T := zT1) (N := 3) (ci := 1) (k := 0) rfl zl1 (by decide) (List.mem_of_getElem? (i := 108) (by decide +kernel)) (zd_dr dc_Te_spell 48 rfl))) ?_
  refine zt_ac (tm_pk nt_iload (ok_iload_n (l := l) (B := B) (y := m_Te_spell) (pc := 95) (k := 3) rfl (zd_dr dc_Te_spell 49 rfl))) ?_
  refine zt_ac (tm_pk nt_aload (ok_aload_n (l := l) (B := B) (y := m_Te_spell) (pc := 96) (k := 1) rfl (zd_dr dc_Te_spell 50 rfl))) ?_
  refine zt_ac (ok_tgetc (ok_getf (l := l) (B := B) (y := m_Te_spell) (pc := 97) hG (C := zR1) (T := zT1) (N := 3) (ci := 1) (k := 2) rfl zl1 (by decide) (List.mem_of_getElem? (i := 115) (by decide +kernel)) (zd_dr dc_Te_spell 51 rfl))) ?_
  refine zt_ac (tm_pk nt_isub (ok_isub (l := l) (B := B) (y := m_Te_spell) (pc := 100) (zd_dr dc_Te_spell 52 rfl))) ?_
  refine zt_ac (ok_tcallv (ok_callv (l := l) (B := B) (y := m_Te_spell) (pc := 101) hG (ci := 7) rfl cf_Te_spell_Te_spellPointed rfl (List.mem_of_getElem? (i := 859) (by decide +kernel)) (List.mem_of_getElem? (i := 861) (by decide +kernel)) (List.mem_of_getElem? (i := 24) (by decide +kernel)) (zd_dr dc_Te_spell 53 rfl))) ?_
  refine zt_ac (tm_pk nt_goto (ok_goto (l := l) (B := B) (y := m_Te_spell) (pc := 104) (zd_dr dc_Te_spell 54 rfl) (by decide))) ?_
  refine zt_ac (tm_pk nt_iload (ok_iload_n (l := l) (B := B) (y := m_Te_spell) (pc := 107) (k := 2) rfl (zd_dr dc_Te_spell 55 rfl))) ?_
  refine zt_ac (tm_pk nt_if_ne (ok_if_ne (l := l) (B := B) (y := m_Te_spell) (pc := 108) (zd_dr dc_Te_spell 56 rfl) (by decide))) ?_
  refine zt_ac (tm_pk nt_aload (ok_aload_n (l := l) (B := B) (y := m_Te_spell) (pc := 111) (k := 0) rfl (zd_dr dc_Te_spell 57 rfl))) ?_
  refine zt_ac (tm_pk nt_aload (ok_aload_n (l := l) (B := B) (y := m_Te_spell) (pc := 112) (k := 1) rfl (zd_dr dc_Te_spell 58 rfl))) ?_
  refine zt_ac (ok_tgetc (ok_getf (l := l) (B := B) (y := m_Te_spell) (pc := 113) hG (C := zR1) (T := zT1) (N := 3) (ci := 1) (k := 0) rfl zl1 (by decide) (List.mem_of_getElem? (i := 108) (by decide +kernel)) (zd_dr dc_Te_spell 59 rfl))) ?_
  refine zt_ac (tm_pk nt_ci (ok_iconst (l := l) (B := B) (y := m_Te_spell) (pc := 116) (n := (1)) (zd_dr dc_Te_spell 60 rfl) rfl)) ?_
  refine zt_ac (ok_tcallv (ok_callv (l := l) (B := B) (y := m_Te_spell) (pc := 117) hG (ci := 7) rfl cf_Te_spell_Te_spellPointed rfl (List.mem_of_getElem? (i := 859) (by decide +kernel)) (List.mem_of_getElem? (i := 861) (by decide +kernel)) (List.mem_of_getElem? (i := 24) (by decide +kernel)) (zd_dr dc_Te_spell 61 rfl))) ?_
  refine zt_ac (tm_pk nt_aload (ok_aload_n (l := l) (B := B) (y := m_Te_spell) (pc := 120) (k := 0) rfl (zd_dr dc_Te_spell 62 rfl))) ?_
  refine zt_ac (tm_pk nt_iload (ok_iload (l := l) (B := B) (y := m_Te_spell) (pc := 121) (zd_dr dc_Te_spell 63 rfl))) ?_
  refine zt_ac (ok_tcallv (ok_callv (l := l) (B := B) (y := m_Te_spell) (pc := 123) hG (ci := 7) rfl cf_Te_spell_Te_appendPower rfl (List.mem_of_getElem? (i := 864) (by decide +kernel)) (List.mem_of_getElem? (i := 866) (by decide +kernel)) (List.mem_of_getElem? (i := 25) (by decide +kernel)) (zd_dr dc_Te_spell 64 rfl))) ?_
  refine zt_ac (tm_pk nt_goto (ok_goto (l := l) (B := B) (y := m_Te_spell) (pc := 126) (zd_dr dc_Te_spell 65 rfl) (by decide))) ?_
  refine zt_ac (tm_pk nt_aload (ok_aload_n (l := l) (B := B) (y := m_Te_spell) (pc := 129) (k := 1) rfl (zd_dr dc_Te_spell 66 rfl))) ?_
  refine zt_ac (ok_tgetc (ok_getf (l := l) (B := B) (y := m_Te_spell) (pc := 130) hG (C := zR1) (T := zT1) (N := 3) (ci := 1) (k := 0) rfl zl1 (by decide) (List.mem_of_getElem? (i := 108) (by decide +kernel)) (zd_dr dc_Te_spell 67 rfl))) ?_
  refine zt_ac (ok_tcallv (ok_callv (l := l) (B := B) (y := m_Te_spell) (pc := 133) hG (ci := 4) rfl cf_Te_spell_Na_isZero rfl (List.mem_of_getElem? (i := 854) (by decide +kernel)) (List.mem_of_getElem? (i := 490) (by decide +kernel)) (List.mem_of_getElem? (i := 491) (by decide +kernel)) (zd_dr dc_Te_spell 68 rfl))) ?_
  refine zt_ac (tm_pk nt_if_eq (ok_if_eq (l := l) (B := B) (y := m_Te_spell) (pc := 136) (zd_dr dc_Te_spell 69 rfl) (by decide))) ?_
  refine zt_ac (tm_pk nt_iload (ok_iload (l := l) (B := B) (y := m_Te_spell) (pc := 139) (zd_dr dc_Te_spell 70 rfl))) ?_
  refine zt_ac (tm_pk nt_ineg (ok_ineg (l := l) (B := B) (y := m_Te_spell) (pc := 141) (zd_dr dc_Te_spell 71 rfl))) ?_
  refine zt_ac (tm_pk nt_ci (ok_iconst (l := l) (B := B) (y := m_Te_spell) (pc := 142) (n := (3)) (zd_dr dc_Te_spell 72 rfl) rfl)) ?_
  refine zt_ac (ok_tcalls (ok_calls (l := l) (B := B) (y := m_Te_spell) (pc := 143) hG cf_Te_spell_Ma_floorMod rfl (List.mem_of_getElem? (i := 869) (by decide +kernel)) (List.mem_of_getElem? (i := 870) (by decide +kernel)) (List.mem_of_getElem? (i := 72) (by decide +kernel)) (zd_dr dc_Te_spell 73 rfl))) ?_
  refine zt_ac (tm_pk nt_istore (ok_istore (l := l) (B := B) (y := m_Te_spell) (pc := 146) (zd_dr dc_Te_spell 74 rfl) (by decide))) ?_
  refine zt_ac (tm_pk nt_aload (ok_aload_n (l := l) (B := B) (y := m_Te_spell) (pc := 148) (k := 0) rfl (zd_dr dc_Te_spell 75 rfl))) ?_
  refine zt_ac (tm_pk nt_iload (ok_iload (l := l) (B := B) (y := m_Te_spell) (pc := 149) (zd_dr dc_Te_spell 76 rfl))) ?_
  refine zt_ac (ok_tcallv (ok_callv (l := l) (B := B) (y := m_Te_spell) (pc := 151) hG (ci := 7) rfl cf_Te_spell_Te_spellZero rfl (List.mem_of_getElem? (i := 872) (by decide +kernel)) (List.mem_of_getElem? (i := 874) (by decide +kernel)) (List.mem_of_getElem? (i := 26) (by decide +kernel)) (zd_dr dc_Te_spell 77 rfl))) ?_
  refine zt_ac (tm_pk nt_aload (ok_aload_n (l := l) (B := B) (y := m_Te_spell) (pc := 154) (k := 0) rfl (zd_dr dc_Te_spell 78 rfl))) ?_
  refine zt_ac (tm_pk nt_iload (ok_iload (l := l) (B := B) (y := m_Te_spell) (pc := 155) (zd_dr dc_Te_spell 79 rfl))) ?_
  refine zt_ac (tm_pk nt_iload (ok_iload (l := l) (B := B) (y := m_Te_spell) (pc := 157) (zd_dr dc_Te_spell 80 rfl))) ?_
  refine zt_ac (tm_pk nt_iadd (ok_iadd (l := l) (B := B) (y := m_Te_spell) (pc := 159) (zd_dr dc_Te_spell 81 rfl))) ?_
  refine zt_ac (ok_tcallv (ok_callv (l := l) (B := B) (y := m_Te_spell) (pc := 160) hG (ci := 7) rfl cf_Te_spell_Te_appendPower rfl (List.mem_of_getElem? (i := 864) (by decide +kernel)) (List.mem_of_getElem? (i := 866) (by decide +kernel)) (List.mem_of_getElem? (i := 25) (by decide +kernel)) (zd_dr dc_Te_spell 82 rfl))) ?_
  refine zt_ac (tm_pk nt_goto (ok_goto (l := l) (B := B) (y := m_Te_spell) (pc := 163) (zd_dr dc_Te_spell 83 rfl) (by decide))) ?_
  refine zt_ac (tm_pk nt_iload (ok_iload (l := l) (B := B) (y := m_Te_spell) (pc := 166) (zd_dr dc_Te_spell 84 rfl))) ?_
  refine zt_ac (tm_pk nt_ci (ok_iconst (l := l) (B := B) (y := m_Te_spell) (pc := 168) (n := (3)) (zd_dr dc_Te_spell 85 rfl) rfl)) ?_
  refine zt_ac (ok_tcalls (ok_calls (l := l) (B := B) (y := m_Te_spell) (pc := 169) hG cf_Te_spell_Ma_floorMod rfl (List.mem_of_getElem? (i := 869) (by decide +kernel)) (List.mem_of_getElem? (i := 870) (by decide +kernel)) (List.mem_of_getElem? (i := 72) (by decide +kernel)) (zd_dr dc_Te_spell 86 rfl))) ?_
  refine zt_ac (tm_pk nt_istore (ok_istore (l := l) (B := B) (y := m_Te_spell) (pc := 172) (zd_dr dc_Te_spell 87 rfl) (by decide))) ?_
  refine zt_ac (tm_pk nt_aload (ok_aload_n (l := l) (B := B) (y := m_Te_spell) (pc := 174) (k := 0) rfl (zd_dr dc_Te_spell 88 rfl))) ?_
  refine zt_ac (tm_pk nt_aload (ok_aload_n (l := l) (B := B) (y := m_Te_spell) (pc := 175) (k := 1) rfl (zd_dr dc_Te_spell 89 rfl))) ?_
  refine zt_ac (ok_tgetc (ok_getf (l := l) (B := B) (y := m_Te_spell) (pc := 176) hG (C := zR1) (T := zT1) (N := 3) (ci := 1) (k := 0) rfl zl1 (by decide) (List.mem_of_getElem? (i := 108) (by decide +kernel)) (zd_dr dc_Te_spell 90 rfl))) ?_
  refine zt_ac (tm_pk nt_iload (ok_iload (l := l) (B := B) (y := m_Te_spell) (pc := 179) (zd_dr dc_Te_spell 91 rfl))) ?_
  refine zt_ac (tm_pk nt_ci (ok_iconst (l := l) (B := B) (y := m_Te_spell) (pc := 181) (n := (1)) (zd_dr dc_Te_spell 92 rfl) rfl)) ?_
  refine zt_ac (tm_pk nt_iadd (ok_iadd (l := l) (B := B) (y := m_Te_spell) (pc := 182) (zd_dr dc_Te_spell 93 rfl))) ?_
  refine zt_ac (ok_tcallv (ok_callv (l := l) (B := B) (y := m_Te_spell) (pc := 183) hG (ci := 7) rfl cf_Te_spell_Te_spellPointed rfl (List.mem_of_getElem? (i := 859) (by decide +kernel)) (List.mem_of_getElem? (i := 861) (by decide +kernel)) (List.mem_of_getElem? (i := 24) (by decide +kernel)) (zd_dr dc_Te_spell 94 rfl))) ?_
  refine zt_ac (tm_pk nt_aload (ok_aload_n (l := l) (B := B) (y := m_Te_spell) (pc := 186) (k := 0) rfl (zd_dr dc_Te_spell 95 rfl))) ?_
  refine zt_ac (tm_pk nt_iload (ok_iload (l := l) (B := B) (y := m_Te_spell) (pc := 187) (zd_dr dc_Te_spell 96 rfl))) ?_
  refine zt_ac (tm_pk nt_iload (ok_iload (l := l) (B := B) (y := m_Te_spell) (pc := 189) (zd_dr dc_Te_spell 97 rfl))) ?_
  refine zt_ac (tm_pk nt_isub (ok_isub (l := l) (B := B) (y := m_Te_spell) (pc := 191) (zd_dr dc_Te_spell 98 rfl))) ?_
  refine zt_ac (ok_tcallv (ok_callv (l := l) (B := B) (y := m_Te_spell) (pc := 192) hG (ci := 7) rfl cf_Te_spell_Te_appendPower rfl (List.mem_of_getElem? (i := 864) (by decide +kernel)) (List.mem_of_getElem? (i := 866) (by decide +kernel)) (List.mem_of_getElem? (i := 25) (by decide +kernel)) (zd_dr dc_Te_spell 99 rfl))) ?_
  refine zt_ac (tm_pk nt_aload (ok_aload_n (l := l) (B := B) (y := m_Te_spell) (pc := 195) (k := 0) rfl (zd_dr dc_Te_spell 100 rfl))) ?_
  refine zt_ac (ok_tgetl (ok_getf (l := l) (B := B) (y := m_Te_spell) (pc := 196) hG (C := zR7) (T := zT7) (N := 2) (ci := 7) (k := 1) rfl zl7 (by decide) (List.mem_of_getElem? (i := 165) (by decide +kernel)) (zd_dr dc_Te_spell 101 rfl))) ?_
  refine zt_ac (ok_tiret (ok_iret (l := l) (B := B) (y := m_Te_spell) (pc := 199) rfl (zd_dr dc_Te_spell 102 rfl))) ?_
  exact zt_an
def ct_Te_appendZeros (l : Launch) (B : zd_B) (E : tE) : List (Nat × zt_S) := [(0, tm_p (oc_ci (0) 1)), (1, tm_p (oc_istore 2 2)), (2, tm_p (oc_iload 2 3)), (3, tm_p (oc_iload 1 4)), (4, tm_p (oc_icmp_ge 19 7)), (7, tm_p (oc_aload 0 8)), (8, tm_p (oc_ci (48) 10)), (10, tm_callv l B E 7 m_Te_append 1 13), (13, tm_p (oc_iinc 2 (1) 16)), (16, tm_p (oc_goto 2)), (19, tm_vret)]
set_option maxRecDepth 20000 in
theorem okt_Te_appendZeros {l : Launch} {B : zd_B} {E : tE} (hG : zd_G B) (hl : l.stackTraces = false) : ∀ q ∈ ct_Te_appendZeros l B E, zt_ok l B E m_Te_appendZeros q.1 q.2 := by
  unfold ct_Te_appendZeros
  refine zt_ac (tm_pk nt_ci (ok_iconst (l := l) (B := B) (y := m_Te_appendZeros) (pc := 0) (n := (0)) (zd_dr dc_Te_appendZeros 0 rfl) rfl)) ?_
  refine zt_ac (tm_pk nt_istore (ok_istore_n (l := l) (B := B) (y := m_Te_appendZeros) (pc := 1) (k := 2) rfl (zd_dr dc_Te_appendZeros 1 rfl) (by decide))) ?_
  refine zt_ac (tm_pk nt_iload (ok_iload_n (l := l) (B := B) (y := m_Te_appendZeros) (pc := 2) (k := 2) rfl (zd_dr dc_Te_appendZeros 2 rfl))) ?_
  refine zt_ac (tm_pk nt_iload (ok_iload_n (l := l) (B := B) (y := m_Te_appendZeros) (pc := 3) (k := 1) rfl (zd_dr dc_Te_appendZeros 3 rfl))) ?_
  refine zt_ac (tm_pk nt_icmp_ge (ok_icmp_ge (l := l) (B := B) (y := m_Te_appendZeros) (pc := 4) (zd_dr dc_Te_appendZeros 4 rfl) (by decide))) ?_
  refine zt_ac (tm_pk nt_aload (ok_aload_n (l := l) (B := B) (y := m_Te_appendZeros) (pc := 7) (k := 0) rfl (zd_dr dc_Te_appendZeros 5 rfl))) ?_
  refine zt_ac (tm_pk nt_ci (ok_bipush (l := l) (B := B) (y := m_Te_appendZeros) (pc := 8) (n := (48)) (zd_dr dc_Te_appendZeros 6 rfl) rfl)) ?_
  refine zt_ac (ok_tcallv (ok_callv (l := l) (B := B) (y := m_Te_appendZeros) (pc := 10) hG (ci := 7) rfl cf_Te_appendZeros_Te_append rfl (List.mem_of_getElem? (i := 841) (by decide +kernel)) (List.mem_of_getElem? (i := 843) (by decide +kernel)) (List.mem_of_getElem? (i := 20) (by decide +kernel)) (zd_dr dc_Te_appendZeros 7 rfl))) ?_
  refine zt_ac (tm_pk nt_iinc (ok_iinc (l := l) (B := B) (y := m_Te_appendZeros) (pc := 13) (zd_dr dc_Te_appendZeros 8 rfl) (by decide) rfl)) ?_
  refine zt_ac (tm_pk nt_goto (ok_goto (l := l) (B := B) (y := m_Te_appendZeros) (pc := 16) (zd_dr dc_Te_appendZeros 9 rfl) (by decide))) ?_
  refine zt_ac (ok_tvret (ok_vret (l := l) (B := B) (y := m_Te_appendZeros) (pc := 19) rfl (zd_dr dc_Te_appendZeros 10 rfl))) ?_
  exact zt_an
def ct_Te_appendDigits (l : Launch) (B : zd_B) (E : tE) : List (Nat × zt_S) := [(0, tm_p (oc_aload 1 1)), (1, tm_callv l B E 4 m_Na_digits 0 4), (4, tm_p (oc_ci (1) 5)), (5, tm_p (oc_isub 6)), (6, tm_p (oc_istore 4 8)), (8, tm_p (oc_iload 2 9)), (9, tm_p (oc_istore 5 11)), (11, tm_p (oc_iload 5 13)), (13, tm_p (oc_iload 3 14)), (14, tm_p (oc_icmp_ge 40 17)), (17, tm_p (oc_aload 0 18)), (18, tm_p (oc_ci (48) 20)), (20, tm_p (oc_aload 1 21)), (21, tm_p (oc_iload 4 23)), (23, tm_p (oc_iload 5 25)), (25, tm_p (oc_isub 26)), (26, tm_callv l B E 4 m_Na_digitAt 1 29), (29, tm_p (oc_iadd 30)), (30, tm_p (oc_i2c 31)), (31, tm_callv l B E 7 m_Te_append 1 34), (34, tm_p (oc_iinc 5 (1) 37)), (37, tm_p (oc_goto 11)), (40, tm_vret)]
set_option maxRecDepth 20000 in
theorem okt_Te_appendDigits {l : Launch} {B : zd_B} {E : tE} (hG : zd_G B) (hl : l.stackTraces = false) : ∀ q ∈ ct_Te_appendDigits l B E, zt_ok l B E m_Te_appendDigits q.1 q.2 := by
  unfold ct_Te_appendDigits
  refine zt_ac (tm_pk nt_aload (ok_aload_n (l := l) (B := B) (y := m_Te_appendDigits) (pc := 0) (k := 1) rfl (zd_dr dc_Te_appendDigits 0 rfl))) ?_
  refine zt_ac (ok_tcallv (ok_callv (l := l) (B := B) (y := m_Te_appendDigits) (pc := 1) hG (ci := 4) rfl cf_Te_appendDigits_Na_digits rfl (List.mem_of_getElem? (i := 833) (by decide +kernel)) (List.mem_of_getElem? (i := 474) (by decide +kernel)) (List.mem_of_getElem? (i := 475) (by decide +kernel)) (zd_dr dc_Te_appendDigits 1 rfl))) ?_
  refine zt_ac (tm_pk nt_ci (ok_iconst (l := l) (B := B) (y := m_Te_appendDigits) (pc := 4) (n := (1)) (zd_dr dc_Te_appendDigits 2 rfl) rfl)) ?_
  refine zt_ac (tm_pk nt_isub (ok_isub (l := l) (B := B) (y := m_Te_appendDigits) (pc := 5) (zd_dr dc_Te_appendDigits 3 rfl))) ?_
  refine zt_ac (tm_pk nt_istore (ok_istore (l := l) (B := B) (y := m_Te_appendDigits) (pc := 6) (zd_dr dc_Te_appendDigits 4 rfl) (by decide))) ?_
  refine zt_ac (tm_pk nt_iload (ok_iload_n (l := l) (B := B) (y := m_Te_appendDigits) (pc := 8) (k := 2) rfl (zd_dr dc_Te_appendDigits 5 rfl))) ?_
  refine zt_ac (tm_pk nt_istore (ok_istore (l := l) (B := B) (y := m_Te_appendDigits) (pc := 9) (zd_dr dc_Te_appendDigits 6 rfl) (by decide))) ?_
  refine zt_ac (tm_pk nt_iload (ok_iload (l := l) (B := B) (y := m_Te_appendDigits) (pc := 11) (zd_dr dc_Te_appendDigits 7 rfl))) ?_
  refine zt_ac (tm_pk nt_iload (ok_iload_n (l := l) (B := B) (y := m_Te_appendDigits) (pc := 13) (k := 3) rfl (zd_dr dc_Te_appendDigits 8 rfl))) ?_
  refine zt_ac (tm_pk nt_icmp_ge (ok_icmp_ge (l := l) (B := B) (y := m_Te_appendDigits) (pc := 14) (zd_dr dc_Te_appendDigits 9 rfl) (by decide))) ?_
  refine zt_ac (tm_pk nt_aload (ok_aload_n (l := l) (B := B) (y := m_Te_appendDigits) (pc := 17) (k := 0) rfl (zd_dr dc_Te_appendDigits 10 rfl))) ?_
  refine zt_ac (tm_pk nt_ci (ok_bipush (l := l) (B := B) (y := m_Te_appendDigits) (pc := 18) (n := (48)) (zd_dr dc_Te_appendDigits 11 rfl) rfl)) ?_
  refine zt_ac (tm_pk nt_aload (ok_aload_n (l := l) (B := B) (y := m_Te_appendDigits) (pc := 20) (k := 1) rfl (zd_dr dc_Te_appendDigits 12 rfl))) ?_
  refine zt_ac (tm_pk nt_iload (ok_iload (l := l) (B := B) (y := m_Te_appendDigits) (pc := 21) (zd_dr dc_Te_appendDigits 13 rfl))) ?_
  refine zt_ac (tm_pk nt_iload (ok_iload (l := l) (B := B) (y := m_Te_appendDigits) (pc := 23) (zd_dr dc_Te_appendDigits 14 rfl))) ?_
  refine zt_ac (tm_pk nt_isub (ok_isub (l := l) (B := B) (y := m_Te_appendDigits) (pc := 25) (zd_dr dc_Te_appendDigits 15 rfl))) ?_
  refine zt_ac (ok_tcallv (ok_callv (l := l) (B := B) (y := m_Te_appendDigits) (pc := 26) hG (ci := 4) rfl cf_Te_appendDigits_Na_digitAt rfl (List.mem_of_getElem? (i := 853) (by decide +kernel)) (List.mem_of_getElem? (i := 648) (by decide +kernel)) (List.mem_of_getElem? (i := 649) (by decide +kernel)) (zd_dr dc_Te_appendDigits 16 rfl))) ?_
  refine zt_ac (tm_pk nt_iadd (ok_iadd (l := l) (B := B) (y := m_Te_appendDigits) (pc := 29) (zd_dr dc_Te_appendDigits 17 rfl))) ?_
  refine zt_ac (tm_pk nt_i2c (ok_i2c (l := l) (B := B) (y := m_Te_appendDigits) (pc := 30) (zd_dr dc_Te_appendDigits 18 rfl))) ?_
  refine zt_ac (ok_tcallv (ok_callv (l := l) (B := B) (y := m_Te_appendDigits) (pc := 31) hG (ci := 7) rfl cf_Te_appendDigits_Te_append rfl (List.mem_of_getElem? (i := 841) (by decide +kernel)) (List.mem_of_getElem? (i := 843) (by decide +kernel)) (List.mem_of_getElem? (i := 20) (by decide +kernel)) (zd_dr dc_Te_appendDigits 19 rfl))) ?_
  refine zt_ac (tm_pk nt_iinc (ok_iinc (l := l) (B := B) (y := m_Te_appendDigits) (pc := 34) (zd_dr dc_Te_appendDigits 20 rfl) (by decide) rfl)) ?_
  refine zt_ac (tm_pk nt_goto (ok_goto (l := l) (B := B) (y := m_Te_appendDigits) (pc := 37) (zd_dr dc_Te_appendDigits 21 rfl) (by decide))) ?_
  refine zt_ac (ok_tvret (ok_vret (l := l) (B := B) (y := m_Te_appendDigits) (pc := 40) rfl (zd_dr dc_Te_appendDigits 22 rfl))) ?_
  exact zt_an
def ct_Te_spellInteger (l : Launch) (B : zd_B) (E : tE) : List (Nat × zt_S) := [(0, tm_p (oc_aload 0 1)), (1, tm_p (oc_aload 1 2)), (2, tm_getc E 0 5), (5, tm_p (oc_ci (0) 6)), (6, tm_p (oc_aload 1 7)), (7, tm_getc E 0 10), (10, tm_callv l B E 4 m_Na_digits 0 13), (13, tm_callv l B E 7 m_Te_appendDigits 3 16), (16, tm_p (oc_aload 1 17)), (17, tm_getc E 0 20), (20, tm_callv l B E 4 m_Na_isZero 0 23), (23, tm_p (oc_if_ne 35 26)), (26, tm_p (oc_aload 0 27)), (27, tm_p (oc_aload 1 28)), (28, tm_getc E 2 31), (31, tm_p (oc_ineg 32)), (32, tm_callv l B E 7 m_Te_appendZeros 1 35), (35, tm_vret)]
set_option maxRecDepth 20000 in
theorem okt_Te_spellInteger {l : Launch} {B : zd_B} {E : tE} (hG : zd_G B) (hl : l.stackTraces = false) : ∀ q ∈ ct_Te_spellInteger l B E, zt_ok l B E m_Te_spellInteger q.1 q.2 := by
  unfold ct_Te_spellInteger
  refine zt_ac (tm_pk nt_aload (ok_aload_n (l := l) (B := B) (y := m_Te_spellInteger) (pc := 0) (k := 0) rfl (zd_dr dc_Te_spellInteger 0 rfl))) ?_
  refine zt_ac (tm_pk nt_aload (ok_aload_n (l := l) (B := B) (y := m_Te_spellInteger) (pc := 1) (k := 1) rfl (zd_dr dc_Te_spellInteger 1 rfl))) ?_
  refine zt_ac (ok_tgetc (ok_getf (l := l) (B := B) (y := m_Te_spellInteger) (pc := 2) hG (C := zR1) (T := zT1) (N := 3) (ci := 1) (k := 0) rfl zl1 (by decide) (List.mem_of_getElem? (i := 108) (by decide +kernel)) (zd_dr dc_Te_spellInteger 2 rfl))) ?_
  refine zt_ac (tm_pk nt_ci (ok_iconst (l := l) (B := B) (y := m_Te_spellInteger) (pc := 5) (n := (0)) (zd_dr dc_Te_spellInteger 3 rfl) rfl)) ?_
  refine zt_ac (tm_pk nt_aload (ok_aload_n (l := l) (B := B) (y := m_Te_spellInteger) (pc := 6) (k := 1) rfl (zd_dr dc_Te_spellInteger 4 rfl))) ?_
  refine zt_ac (ok_tgetc (ok_getf (l := l) (B := B) (y := m_Te_spellInteger) (pc := 7) hG (C := zR1) (T := zT1) (N := 3) (ci := 1) (k := 0) rfl zl1 (by decide) (List.mem_of_getElem? (i := 108) (by decide +kernel)) (zd_dr dc_Te_spellInteger 5 rfl))) ?_
  refine zt_ac (ok_tcallv (ok_callv (l := l) (B := B) (y := m_Te_spellInteger) (pc := 10) hG (ci := 4) rfl cf_Te_spellInteger_Na_digits rfl (List.mem_of_getElem? (i := 833) (by decide +kernel)) (List.mem_of_getElem? (i := 474) (by decide +kernel)) (List.mem_of_getElem? (i := 475) (by decide +kernel)) (zd_dr dc_Te_spellInteger 6 rfl))) ?_
  refine zt_ac (ok_tcallv (ok_callv (l := l) (B := B) (y := m_Te_spellInteger) (pc := 13) hG (ci := 7) rfl cf_Te_spellInteger_Te_appendDigits rfl (List.mem_of_getElem? (i := 849) (by decide +kernel)) (List.mem_of_getElem? (i := 851) (by decide +kernel)) (List.mem_of_getElem? (i := 22) (by decide +kernel)) (zd_dr dc_Te_spellInteger 7 rfl))) ?_
  refine zt_ac (tm_pk nt_aload (ok_aload_n (l := l) (B := B) (y := m_Te_spellInteger) (pc := 16) (k := 1) rfl (zd_dr dc_Te_spellInteger 8 rfl))) ?_
  refine zt_ac (ok_tgetc (ok_getf (l := l) (B := B) (y := m_Te_spellInteger) (pc := 17) hG (C := zR1) (T := zT1) (N := 3) (ci := 1) (k := 0) rfl zl1 (by decide) (List.mem_of_getElem? (i := 108) (by decide +kernel)) (zd_dr dc_Te_spellInteger 9 rfl))) ?_
  refine zt_ac (ok_tcallv (ok_callv (l := l) (B := B) (y := m_Te_spellInteger) (pc := 20) hG (ci := 4) rfl cf_Te_spellInteger_Na_isZero rfl (List.mem_of_getElem? (i := 854) (by decide +kernel)) (List.mem_of_getElem? (i := 490) (by decide +kernel)) (List.mem_of_getElem? (i := 491) (by decide +kernel)) (zd_dr dc_Te_spellInteger 10 rfl))) ?_
  refine zt_ac (tm_pk nt_if_ne (ok_if_ne (l := l) (B := B) (y := m_Te_spellInteger) (pc := 23) (zd_dr dc_Te_spellInteger 11 rfl) (by decide))) ?_
  refine zt_ac (tm_pk nt_aload (ok_aload_n (l := l) (B := B) (y := m_Te_spellInteger) (pc := 26) (k := 0) rfl (zd_dr dc_Te_spellInteger 12 rfl))) ?_
  refine zt_ac (tm_pk nt_aload (ok_aload_n (l := l) (B := B) (y := m_Te_spellInteger) (pc := 27) (k := 1) rfl (zd_dr dc_Te_spellInteger 13 rfl))) ?_
  refine zt_ac (ok_tgetc (ok_getf (l := l) (B := B) (y := m_Te_spellInteger) (pc := 28) hG (C := zR1) (T := zT1) (N := 3) (ci := 1) (k := 2) rfl zl1 (by decide) (List.mem_of_getElem? (i := 115) (by decide +kernel)) (zd_dr dc_Te_spellInteger 14 rfl))) ?_
  refine zt_ac (tm_pk nt_ineg (ok_ineg (l := l) (B := B) (y := m_Te_spellInteger) (pc := 31) (zd_dr dc_Te_spellInteger 15 rfl))) ?_
  refine zt_ac (ok_tcallv (ok_callv (l := l) (B := B) (y := m_Te_spellInteger) (pc := 32) hG (ci := 7) rfl cf_Te_spellInteger_Te_appendZeros rfl (List.mem_of_getElem? (i := 855) (by decide +kernel)) (List.mem_of_getElem? (i := 857) (by decide +kernel)) (List.mem_of_getElem? (i := 23) (by decide +kernel)) (zd_dr dc_Te_spellInteger 16 rfl))) ?_
  refine zt_ac (ok_tvret (ok_vret (l := l) (B := B) (y := m_Te_spellInteger) (pc := 35) rfl (zd_dr dc_Te_spellInteger 17 rfl))) ?_
  exact zt_an
def ct_Te_spellPointed (l : Launch) (B : zd_B) (E : tE) : List (Nat × zt_S) := [(0, tm_p (oc_aload 1 1)), (1, tm_callv l B E 4 m_Na_digits 0 4), (4, tm_p (oc_istore 3 5)), (5, tm_p (oc_iload 2 6)), (6, tm_p (oc_if_gt 35 9)), (9, tm_p (oc_aload 0 10)), (10, tm_p (oc_ci (48) 12)), (12, tm_callv l B E 7 m_Te_append 1 15), (15, tm_p (oc_aload 0 16)), (16, tm_p (oc_ci (46) 18)), (18, tm_callv l B E 7 m_Te_append 1 21), (21, tm_p (oc_aload 0 22)), (22, tm_p (oc_iload 2 23)), (23, tm_p (oc_ineg 24)), (24, tm_callv l B E 7 m_Te_appendZeros 1 27), (27, tm_p (oc_aload 0 28)), (28, tm_p (oc_aload 1 29)), (29, tm_p (oc_ci (0) 30)), (30, tm_p (oc_iload 3 31)), (31, tm_callv l B E 7 m_Te_appendDigits 3 34), (34, tm_vret), (35, tm_p (oc_aload 0 36)), (36, tm_p (oc_aload 1 37)), (37, tm_p (oc_ci (0) 38)), (38, tm_p (oc_iload 2 39)), (39, tm_p (oc_iload 3 40)), (40, tm_calls l B E m_Ma_min 2 43), (43, tm_callv l B E 7 m_Te_appendDigits 3 46), (46, tm_p (oc_aload 0 47)), (47, tm_p (oc_iload 2 48)), (48, tm_p (oc_iload 3 49)), (49, tm_p (oc_isub 50)), (50, tm_callv l B E 7 m_Te_appendZeros 1 53), (53, tm_p (oc_iload 2 54)), (54, tm_p (oc_iload 3 55)), (55, tm_p (oc_icmp_ge 71 58)), (58, tm_p (oc_aload 0 59)), (59, tm_p (oc_ci (46) 61)), (61, tm_callv l B E 7 m_Te_append 1 64), (64, tm_p (oc_aload 0 65)), (65, tm_p (oc_aload 1 66)), (66, tm_p (oc_iload 2 67)), (67, tm_p (oc_iload 3 68)), (68, tm_callv l B E 7 m_Te_appendDigits 3 71), (71, tm_vret)]
set_option maxRecDepth 20000 in
theorem okt_Te_spellPointed {l : Launch} {B : zd_B} {E : tE} (hG : zd_G B) (hl : l.stackTraces = false) : ∀ q ∈ ct_Te_spellPointed l B E, zt_ok l B E m_Te_spellPointed q.1 q.2 := by
  unfold ct_Te_spellPointed
  refine zt_ac (tm_pk nt_aload (ok_aload_n (l := l) (B := B) (y := m_Te_spellPointed) (pc := 0) (k := 1) rfl (zd_dr dc_Te_spellPointed 0 rfl))) ?_
  refine zt_ac (ok_tcallv (ok_callv (l := l) (B := B) (y := m_Te_spellPointed) (pc := 1) hG (ci := 4) rfl cf_Te_spellPointed_Na_digits rfl (List.mem_of_getElem? (i := 833) (by decide +kernel)) (List.mem_of_getElem? (i := 474) (by decide +kernel)) (List.mem_of_getElem? (i := 475) (by decide +kernel)) (zd_dr dc_Te_spellPointed 1 rfl))) ?_
  refine zt_ac (tm_pk nt_istore (ok_istore_n (l := l) (B := B) (y := m_Te_spellPointed) (pc := 4) (k := 3) rfl (zd_dr dc_Te_spellPointed 2 rfl) (by decide))) ?_
  refine zt_ac (tm_pk nt_iload (ok_iload_n (l := l) (B := B) (y := m_Te_spellPointed) (pc := 5) (k := 2) rfl (zd_dr dc_Te_spellPointed 3 rfl))) ?_
  refine zt_ac (tm_pk nt_if_gt (ok_if_gt (l := l) (B := B) (y := m_Te_spellPointed) (pc := 6) (zd_dr dc_Te_spellPointed 4 rfl) (by decide))) ?_
  refine zt_ac (tm_pk nt_aload (ok_aload_n (l := l) (B := B) (y := m_Te_spellPointed) (pc := 9) (k := 0) rfl (zd_dr dc_Te_spellPointed 5 rfl))) ?_
  refine zt_ac (tm_pk nt_ci (ok_bipush (l := l) (B := B) (y := m_Te_spellPointed) (pc := 10) (n := (48)) (zd_dr dc_Te_spellPointed 6 rfl) rfl)) ?_
  refine zt_ac (ok_tcallv (ok_callv (l := l) (B := B) (y := m_Te_spellPointed) (pc := 12) hG (ci := 7) rfl cf_Te_spellPointed_Te_append rfl (List.mem_of_getElem? (i := 841) (by decide +kernel)) (List.mem_of_getElem? (i := 843) (by decide +kernel)) (List.mem_of_getElem? (i := 20) (by decide +kernel)) (zd_dr dc_Te_spellPointed 7 rfl))) ?_
  refine zt_ac (tm_pk nt_aload (ok_aload_n (l := l) (B := B) (y := m_Te_spellPointed) (pc := 15) (k := 0) rfl (zd_dr dc_Te_spellPointed 8 rfl))) ?_
  refine zt_ac (tm_pk nt_ci (ok_bipush (l := l) (B := B) (y := m_Te_spellPointed) (pc := 16) (n := (46)) (zd_dr dc_Te_spellPointed 9 rfl) rfl)) ?_
  refine zt_ac (ok_tcallv (ok_callv (l := l) (B := B) (y := m_Te_spellPointed) (pc := 18) hG (ci := 7) rfl cf_Te_spellPointed_Te_append rfl (List.mem_of_getElem? (i := 841) (by decide +kernel)) (List.mem_of_getElem? (i := 843) (by decide +kernel)) (List.mem_of_getElem? (i := 20) (by decide +kernel)) (zd_dr dc_Te_spellPointed 10 rfl))) ?_
  refine zt_ac (tm_pk nt_aload (ok_aload_n (l := l) (B := B) (y := m_Te_spellPointed) (pc := 21) (k := 0) rfl (zd_dr dc_Te_spellPointed 11 rfl))) ?_
  refine zt_ac (tm_pk nt_iload (ok_iload_n (l := l) (B := B) (y := m_Te_spellPointed) (pc := 22) (k := 2) rfl (zd_dr dc_Te_spellPointed 12 rfl))) ?_
  refine zt_ac (tm_pk nt_ineg (ok_ineg (l := l) (B := B) (y := m_Te_spellPointed) (pc := 23) (zd_dr dc_Te_spellPointed 13 rfl))) ?_
  refine zt_ac (ok_tcallv (ok_callv (l := l) (B := B) (y := m_Te_spellPointed) (pc := 24) hG (ci := 7) rfl cf_Te_spellPointed_Te_appendZeros rfl (List.mem_of_getElem? (i := 855) (by decide +kernel)) (List.mem_of_getElem? (i := 857) (by decide +kernel)) (List.mem_of_getElem? (i := 23) (by decide +kernel)) (zd_dr dc_Te_spellPointed 14 rfl))) ?_
  refine zt_ac (tm_pk nt_aload (ok_aload_n (l := l) (B := B) (y := m_Te_spellPointed) (pc := 27) (k := 0) rfl (zd_dr dc_Te_spellPointed 15 rfl))) ?_
  refine zt_ac (tm_pk nt_aload (ok_aload_n (l := l) (B := B) (y := m_Te_spellPointed) (pc := 28) (k := 1) rfl (zd_dr dc_Te_spellPointed 16 rfl))) ?_
  refine zt_ac (tm_pk nt_ci (ok_iconst (l := l) (B := B) (y := m_Te_spellPointed) (pc := 29) (n := (0)) (zd_dr dc_Te_spellPointed 17 rfl) rfl)) ?_
  refine zt_ac (tm_pk nt_iload (ok_iload_n (l := l) (B := B) (y := m_Te_spellPointed) (pc := 30) (k := 3) rfl (zd_dr dc_Te_spellPointed 18 rfl))) ?_
  refine zt_ac (ok_tcallv (ok_callv (l := l) (B := B) (y := m_Te_spellPointed) (pc := 31) hG (ci := 7) rfl cf_Te_spellPointed_Te_appendDigits rfl (List.mem_of_getElem? (i := 849) (by decide +kernel)) (List.mem_of_getElem? (i := 851) (by decide +kernel)) (List.mem_of_getElem? (i := 22) (by decide +kernel)) (zd_dr dc_Te_spellPointed 19 rfl))) ?_
  refine zt_ac (ok_tvret (ok_vret (l := l) (B := B) (y := m_Te_spellPointed) (pc := 34) rfl (zd_dr dc_Te_spellPointed 20 rfl))) ?_
  refine zt_ac (tm_pk nt_aload (ok_aload_n (l := l) (B := B) (y := m_Te_spellPointed) (pc := 35) (k := 0) rfl (zd_dr dc_Te_spellPointed 21 rfl))) ?_
  refine zt_ac (tm_pk nt_aload (ok_aload_n (l := l) (B := B) (y := m_Te_spellPointed) (pc := 36) (k := 1) rfl (zd_dr dc_Te_spellPointed 22 rfl))) ?_
  refine zt_ac (tm_pk nt_ci (ok_iconst (l := l) (B := B) (y := m_Te_spellPointed) (pc := 37) (n := (0)) (zd_dr dc_Te_spellPointed 23 rfl) rfl)) ?_
  refine zt_ac (tm_pk nt_iload (ok_iload_n (l := l) (B := B) (y := m_Te_spellPointed) (pc := 38) (k := 2) rfl (zd_dr dc_Te_spellPointed 24 rfl))) ?_
  refine zt_ac (tm_pk nt_iload (ok_iload_n (l := l) (B := B) (y := m_Te_spellPointed) (pc := 39) (k := 3) rfl (zd_dr dc_Te_spellPointed 25 rfl))) ?_
  refine zt_ac (ok_tcalls (ok_calls (l := l) (B := B) (y := m_Te_spellPointed) (pc := 40) hG cf_Te_spellPointed_Ma_min rfl (List.mem_of_getElem? (i := 863) (by decide +kernel)) (List.mem_of_getElem? (i := 688) (by decide +kernel)) (List.mem_of_getElem? (i := 72) (by decide +kernel)) (zd_dr dc_Te_spellPointed 26 rfl))) ?_
  refine zt_ac (ok_tcallv (ok_callv (l := l) (B := B) (y := m_Te_spellPointed) (pc := 43) hG (ci := 7) rfl cf_Te_spellPointed_Te_appendDigits rfl (List.mem_of_getElem? (i := 849) (by decide +kernel)) (List.mem_of_getElem? (i := 851) (by decide +kernel)) (List.mem_of_getElem? (i := 22) (by decide +kernel)) (zd_dr dc_Te_spellPointed 27 rfl))) ?_
  refine zt_ac (tm_pk nt_aload (ok_aload_n (l := l) (B := B) (y := m_Te_spellPointed) (pc := 46) (k := 0) rfl (zd_dr dc_Te_spellPointed 28 rfl))) ?_
  refine zt_ac (tm_pk nt_iload (ok_iload_n (l := l) (B := B) (y := m_Te_spellPointed) (pc := 47) (k := 2) rfl (zd_dr dc_Te_spellPointed 29 rfl))) ?_
  refine zt_ac (tm_pk nt_iload (ok_iload_n (l := l) (B := B) (y := m_Te_spellPointed) (pc := 48) (k := 3) rfl (zd_dr dc_Te_spellPointed 30 rfl))) ?_
  refine zt_ac (tm_pk nt_isub (ok_isub (l := l) (B := B) (y := m_Te_spellPointed) (pc := 49) (zd_dr dc_Te_spellPointed 31 rfl))) ?_
  refine zt_ac (ok_tcallv (ok_callv (l := l) (B := B) (y := m_Te_spellPointed) (pc := 50) hG (ci := 7) rfl cf_Te_spellPointed_Te_appendZeros rfl (List.mem_of_getElem? (i := 855) (by decide +kernel)) (List.mem_of_getElem? (i := 857) (by decide +kernel)) (List.mem_of_getElem? (i := 23) (by decide +kernel)) (zd_dr dc_Te_spellPointed 32 rfl))) ?_
  refine zt_ac (tm_pk nt_iload (ok_iload_n (l := l) (B := B) (y := m_Te_spellPointed) (pc := 53) (k := 2) rfl (zd_dr dc_Te_spellPointed 33 rfl))) ?_
  refine zt_ac (tm_pk nt_iload (ok_iload_n (l := l) (B := B) (y := m_Te_spellPointed) (pc := 54) (k := 3) rfl (zd_dr dc_Te_spellPointed 34 rfl))) ?_
  refine zt_ac (tm_pk nt_icmp_ge (ok_icmp_ge (l := l) (B := B) (y := m_Te_spellPointed) (pc := 55) (zd_dr dc_Te_spellPointed 35 rfl) (by decide))) ?_
  refine zt_ac (tm_pk nt_aload (ok_aload_n (l := l) (B := B) (y := m_Te_spellPointed) (pc := 58) (k := 0) rfl (zd_dr dc_Te_spellPointed 36 rfl))) ?_
  refine zt_ac (tm_pk nt_ci (ok_bipush (l := l) (B := B) (y := m_Te_spellPointed) (pc := 59) (n := (46)) (zd_dr dc_Te_spellPointed 37 rfl) rfl)) ?_
  refine zt_ac (ok_tcallv (ok_callv (l := l) (B := B) (y := m_Te_spellPointed) (pc := 61) hG (ci := 7) rfl cf_Te_spellPointed_Te_append rfl (List.mem_of_getElem? (i := 841) (by decide +kernel)) (List.mem_of_getElem? (i := 843) (by decide +kernel)) (List.mem_of_getElem? (i := 20) (by decide +kernel)) (zd_dr dc_Te_spellPointed 38 rfl))) ?_
  refine zt_ac (tm_pk nt_aload (ok_aload_n (l := l) (B := B) (y := m_Te_spellPointed) (pc := 64) (k := 0) rfl (zd_dr dc_Te_spellPointed 39 rfl))) ?_
  refine zt_ac (tm_pk nt_aload (ok_aload_n (l := l) (B := B) (y := m_Te_spellPointed) (pc := 65) (k := 1) rfl (zd_dr dc_Te_spellPointed 40 rfl))) ?_
  refine zt_ac (tm_pk nt_iload (ok_iload_n (l := l) (B := B) (y := m_Te_spellPointed) (pc := 66) (k := 2) rfl (zd_dr dc_Te_spellPointed 41 rfl))) ?_
  refine zt_ac (tm_pk nt_iload (ok_iload_n (l := l) (B := B) (y := m_Te_spellPointed) (pc := 67) (k := 3) rfl (zd_dr dc_Te_spellPointed 42 rfl))) ?_
  refine zt_ac (ok_tcallv (ok_callv (l := l) (B := B) (y := m_Te_spellPointed) (pc := 68) hG (ci := 7) rfl cf_Te_spellPointed_Te_appendDigits rfl (List.mem_of_getElem? (i := 849) (by decide +kernel)) (List.mem_of_getElem? (i := 851) (by decide +kernel)) (List.mem_of_getElem? (i := 22) (by decide +kernel)) (zd_dr dc_Te_spellPointed 43 rfl))) ?_
  refine zt_ac (ok_tvret (ok_vret (l := l) (B := B) (y := m_Te_spellPointed) (pc := 71) rfl (zd_dr dc_Te_spellPointed 44 rfl))) ?_
  exact zt_an
def ct_Te_spellZero (l : Launch) (B : zd_B) (E : tE) : List (Nat × zt_S) := [(0, tm_p (oc_aload 0 1)), (1, tm_p (oc_ci (48) 3)), (3, tm_callv l B E 7 m_Te_append 1 6), (6, tm_p (oc_iload 1 7)), (7, tm_p (oc_if_le 21 10)), (10, tm_p (oc_aload 0 11)), (11, tm_p (oc_ci (46) 13)), (13, tm_callv l B E 7 m_Te_append 1 16), (16, tm_p (oc_aload 0 17)), (17, tm_p (oc_iload 1 18)), (18, tm_callv l B E 7 m_Te_appendZeros 1 21), (21, tm_vret)]
set_option maxRecDepth 20000 in
theorem okt_Te_spellZero {l : Launch} {B : zd_B} {E : tE} (hG : zd_G B) (hl : l.stackTraces = false) : ∀ q ∈ ct_Te_spellZero l B E, zt_ok l B E m_Te_spellZero q.1 q.2 := by
  unfold ct_Te_spellZero
  refine zt_ac (tm_pk nt_aload (ok_aload_n (l := l) (B := B) (y := m_Te_spellZero) (pc := 0) (k := 0) rfl (zd_dr dc_Te_spellZero 0 rfl))) ?_
  refine zt_ac (tm_pk nt_ci (ok_bipush (l := l) (B := B) (y := m_Te_spellZero) (pc := 1) (n := (48)) (zd_dr dc_Te_spellZero 1 rfl) rfl)) ?_
  refine zt_ac (ok_tcallv (ok_callv (l := l) (B := B) (y := m_Te_spellZero) (pc := 3) hG (ci := 7) rfl cf_Te_spellZero_Te_append rfl (List.mem_of_getElem? (i := 841) (by decide +kernel)) (List.mem_of_getElem? (i := 843) (by decide +kernel)) (List.mem_of_getElem? (i := 20) (by decide +kernel)) (zd_dr dc_Te_spellZero 2 rfl))) ?_
  refine zt_ac (tm_pk nt_iload (ok_iload_n (l := l) (B := B) (y := m_Te_spellZero) (pc := 6) (k := 1) rfl (zd_dr dc_Te_spellZero 3 rfl))) ?_
  refine zt_ac (tm_pk nt_if_le (ok_if_le (l := l) (B := B) (y := m_Te_spellZero) (pc := 7) (zd_dr dc_Te_spellZero 4 rfl) (by decide))) ?_
  refine zt_ac (tm_pk nt_aload (ok_aload_n (l := l) (B := B) (y := m_Te_spellZero) (pc := 10) (k := 0) rfl (zd_dr dc_Te_spellZero 5 rfl))) ?_
  refine zt_ac (tm_pk nt_ci (ok_bipush (l := l) (B := B) (y := m_Te_spellZero) (pc := 11) (n := (46)) (zd_dr dc_Te_spellZero 6 rfl) rfl)) ?_
  refine zt_ac (ok_tcallv (ok_callv (l := l) (B := B) (y := m_Te_spellZero) (pc := 13) hG (ci := 7) rfl cf_Te_spellZero_Te_append rfl (List.mem_of_getElem? (i := 841) (by decide +kernel)) (List.mem_of_getElem? (i := 843) (by decide +kernel)) (List.mem_of_getElem? (i := 20) (by decide +kernel)) (zd_dr dc_Te_spellZero 7 rfl))) ?_
  refine zt_ac (tm_pk nt_aload (ok_aload_n (l := l) (B := B) (y := m_Te_spellZero) (pc := 16) (k := 0) rfl (zd_dr dc_Te_spellZero 8 rfl))) ?_
  refine zt_ac (tm_pk nt_iload (ok_iload_n (l := l) (B := B) (y := m_Te_spellZero) (pc := 17) (k := 1) rfl (zd_dr dc_Te_spellZero 9 rfl))) ?_
  refine zt_ac (ok_tcallv (ok_callv (l := l) (B := B) (y := m_Te_spellZero) (pc := 18) hG (ci := 7) rfl cf_Te_spellZero_Te_appendZeros rfl (List.mem_of_getElem? (i := 855) (by decide +kernel)) (List.mem_of_getElem? (i := 857) (by decide +kernel)) (List.mem_of_getElem? (i := 23) (by decide +kernel)) (zd_dr dc_Te_spellZero 10 rfl))) ?_
  refine zt_ac (ok_tvret (ok_vret (l := l) (B := B) (y := m_Te_spellZero) (pc := 21) rfl (zd_dr dc_Te_spellZero 11 rfl))) ?_
  exact zt_an

/-! written by gencode.py: code of DecimalDesk -/
theorem zx_De_80_82_84 : zx_F "DecimalDesk" 80 82 84 "java/lang/IllegalStateException" "the draft is no number text" := ⟨(List.mem_of_getElem? (i := 389) (by decide +kernel)), (List.mem_of_getElem? (i := 69) (by decide +kernel)), (List.mem_of_getElem? (i := 398) (by decide +kernel)), (List.mem_of_getElem? (i := 399) (by decide +kernel))⟩
theorem zx_De_188_245_192 : zx_F "DecimalDesk" 188 245 192 "java/lang/IllegalArgumentException" "a kind is 0 .. 2" := ⟨(List.mem_of_getElem? (i := 300) (by decide +kernel)), (List.mem_of_getElem? (i := 68) (by decide +kernel)), (List.mem_of_getElem? (i := 828) (by decide +kernel)), (List.mem_of_getElem? (i := 343) (by decide +kernel))⟩
theorem cf_De_character_Te_at : zd_cf m_De_character m_Te_at 1 := ⟨(List.mem_of_getElem? (i := 286) (by decide +kernel)), by decide +kernel, by decide, by decide, ⟨by decide, by decide⟩, by decide +kernel⟩
theorem cf_De_read_De_demandRegister : zd_cf m_De_read m_De_demandRegister 1 := ⟨(List.mem_of_getElem? (i := 299) (by decide +kernel)), by decide +kernel, by decide, by decide, ⟨by decide, by decide⟩, by decide +kernel⟩
theorem cf_De_read_De_demandScale : zd_cf m_De_read m_De_demandScale 1 := ⟨(List.mem_of_getElem? (i := 411) (by decide +kernel)), by decide +kernel, by decide, by decide, ⟨by decide, by decide⟩, by decide +kernel⟩
theorem cf_De_read_De_keep : zd_cf m_De_read m_De_keep 1 := ⟨(List.mem_of_getElem? (i := 469) (by decide +kernel)), by decide +kernel, by decide, by decide, ⟨by decide, by decide⟩, by decide +kernel⟩
theorem cf_De_read_Dr_clear : zd_cf m_De_read m_Dr_clear 0 := ⟨(List.mem_of_getElem? (i := 278) (by decide +kernel)), by decide +kernel, by decide, by decide, ⟨by decide, by decide⟩, by decide +kernel⟩
theorem cf_De_read_Dr_fill : zd_cf m_De_read m_Dr_fill 1 := ⟨(List.mem_of_getElem? (i := 436) (by decide +kernel)), by decide +kernel, by decide, by decide, ⟨by decide, by decide⟩, by decide +kernel⟩
theorem cf_De_read_Dr_isNumberText : zd_cf m_De_read m_Dr_isNumberText 0 := ⟨(List.mem_of_getElem? (i := 372) (by decide +kernel)), by decide +kernel, by decide, by decide, ⟨by decide, by decide⟩, by decide +kernel⟩
theorem cf_De_read_Dr_saidScale : zd_cf m_De_read m_Dr_saidScale 0 := ⟨(List.mem_of_getElem? (i := 408) (by decide +kernel)), by decide +kernel, by decide, by decide, ⟨by decide, by decide⟩, by decide +kernel⟩
theorem cf_De_read_Dr_saysNegative : zd_cf m_De_read m_Dr_saysNegative 0 := ⟨(List.mem_of_getElem? (i := 461) (by decide +kernel)), by decide +kernel, by decide, by decide, ⟨by decide, by decide⟩, by decide +kernel⟩
theorem cf_De_read_Ru_describe : zd_cf m_De_read m_Ru_describe 2 := ⟨(List.mem_of_getElem? (i := 465) (by decide +kernel)), by decide +kernel, by decide, by decide, ⟨by decide, by decide⟩, by decide +kernel⟩
theorem cf_De_wipe_Dr_clear : zd_cf m_De_wipe m_Dr_clear 0 := ⟨(List.mem_of_getElem? (i := 278) (by decide +kernel)), by decide +kernel, by decide, by decide, ⟨by decide, by decide⟩, by decide +kernel⟩
theorem cf_De_write_Dr_append : zd_cf m_De_write m_Dr_append 1 := ⟨(List.mem_of_getElem? (i := 266) (by decide +kernel)), by decide +kernel, by decide, by decide, ⟨by decide, by decide⟩, by decide +kernel⟩
theorem cf_De_written_De_demandRegister : zd_cf m_De_written m_De_demandRegister 1 := ⟨(List.mem_of_getElem? (i := 299) (by decide +kernel)), by decide +kernel, by decide, by decide, ⟨by decide, by decide⟩, by decide +kernel⟩
theorem cf_De_written_Te_spell : zd_cf m_De_written m_Te_spell 2 := ⟨(List.mem_of_getElem? (i := 832) (by decide +kernel)), by decide +kernel, by decide, by decide, ⟨by decide, by decide⟩, by decide +kernel⟩
def dl_De_write : List (Nat × Instr × Nat) := [(0, .aload_n 0, 1), (1, .getfield 19, 3), (4, .lload_n 1, 1), (5, .invokevirtual 65, 3), (8, .ireturn, 1)]
theorem dc_De_write : ∀ q ∈ dl_De_write, decode (zd_yb m_De_write) q.1 = .ok q.2 := by decide +kernel
def cd_De_write (l : Launch) (B : zd_B) : List (Nat × zd_S) := [(0, oc_aload 0 1), (1, oc_getf B 0 1 4), (4, oc_lload 1 5), (5, oc_callv l B 3 m_Dr_append 1 8), (8, oc_iret .int)]
set_option maxRecDepth 20000 in
theorem ok_De_write {l : Launch} {B : zd_B} (hG : zd_G B) (hl : l.stackTraces = false) : ∀ q ∈ cd_De_write l B, zd_ok l B m_De_write q.1 q.2 := by
  unfold cd_De_write
  refine zd_ac (ok_aload_n (l := l) (B := B) (y := m_De_write) (pc := 0) (k := 0) rfl (zd_dr dc_De_write 0 rfl)) ?_
  refine zd_ac (ok_getf (l := l) (B := B) (y := m_De_write) (pc := 1) hG (C := zR0) (T := zT0) (N := 8) (ci := 0) (k := 1) rfl zl0 (by decide) (List.mem_of_getElem? (i := 235) (by decide +kernel)) (zd_dr dc_De_write 1 rfl)) ?_
  refine zd_ac (ok_lload_n (l := l) (B := B) (y := m_De_write) (pc := 4) (k := 1) rfl (zd_dr dc_De_write 2 rfl)) ?_
  refine zd_ac (ok_callv (l := l) (B := B) (y := m_De_write) (pc := 5) hG (ci := 3) rfl cf_De_write_Dr_append rfl (List.mem_of_getElem? (i := 263) (by decide +kernel)) (List.mem_of_getElem? (i := 264) (by decide +kernel)) (List.mem_of_getElem? (i := 265) (by decide +kernel)) (zd_dr dc_De_write 3 rfl)) ?_
  refine zd_ac (ok_iret (l := l) (B := B) (y := m_De_write) (pc := 8) rfl (zd_dr dc_De_write 4 rfl)) ?_
  exact zd_an
def dl_De_wipe : List (Nat × Instr × Nat) := [(0, .aload_n 0, 1), (1, .getfield 19, 3), (4, .invokevirtual 69, 3), (7, .ireturn, 1)]
theorem dc_De_wipe : ∀ q ∈ dl_De_wipe, decode (zd_yb m_De_wipe) q.1 = .ok q.2 := by decide +kernel
def cd_De_wipe (l : Launch) (B : zd_B) : List (Nat × zd_S) := [(0, oc_aload 0 1), (1, oc_getf B 0 1 4), (4, oc_callv l B 3 m_Dr_clear 0 7), (7, oc_iret .int)]
set_option maxRecDepth 20000 in
theorem ok_De_wipe {l : Launch} {B : zd_B} (hG : zd_G B) (hl : l.stackTraces = false) : ∀ q ∈ cd_De_wipe l B, zd_ok l B m_De_wipe q.1 q.2 := by
  unfold cd_De_wipe
  refine zd_ac (ok_aload_n (l := l) (B := B) (y := m_De_wipe) (pc := 0) (k := 0) rfl (zd_dr dc_De_wipe 0 rfl)) ?_
  refine zd_ac (ok_getf (l := l) (B := B) (y := m_De_wipe) (pc := 1) hG (C := zR0) (T := zT0) (N := 8) (ci := 0) (k := 1) rfl zl0 (by decide) (List.mem_of_getElem? (i := 235) (by decide +kernel)) (zd_dr dc_De_wipe 1 rfl)) ?_
  refine zd_ac (ok_callv (l := l) (B := B) (y := m_De_wipe) (pc := 4) hG (ci := 3) rfl cf_De_wipe_Dr_clear rfl (List.mem_of_getElem? (i := 275) (by decide +kernel)) (List.mem_of_getElem? (i := 276) (by decide +kernel)) (List.mem_of_getElem? (i := 277) (by decide +kernel)) (zd_dr dc_De_wipe 2 rfl)) ?_
  refine zd_ac (ok_iret (l := l) (B := B) (y := m_De_wipe) (pc := 7) rfl (zd_dr dc_De_wipe 3 rfl)) ?_
  exact zd_an
def dl_De_read : List (Nat × Instr × Nat) := [(0, .iload_n 1, 1), (1, .invokestatic 73, 3), (4, .aload_n 0, 1), (5, .getfield 19, 3), (8, .invokevirtual 76, 3), (11, .ifCond .ne (13), 3), (14, .new 80, 3), (17, .dup, 1), (18, .ldc 82, 2), (20, .invokespecial 84, 3), (23, .athrow, 1), (24, .aload_n 0, 1), (25, .getfield 19, 3), (28, .invokevirtual 87, 3), (31, .invokestatic 91, 3), (34, .aload_n 0, 1), (35, .getfield 19, 3), (38, .aload_n 0, 1), (39, .getfield 49, 3), (42, .getfield 95, 3), (45, .invokevirtual 98, 3), (48, .aload_n 0, 1), (49, .getfield 49, 3), (52, .aload_n 0, 1), (53, .getfield 19, 3), (56, .invokevirtual 102, 3), (59, .aload_n 0, 1), (60, .getfield 19, 3), (63, .invokevirtual 87, 3), (66, .l2i, 1), (67, .invokevirtual 105, 3), (70, .aload_n 0, 1), (71, .iload_n 1, 1), (72, .invokevirtual 109, 3), (75, .aload_n 0, 1), (76, .getfield 19, 3), (79, .invokevirtual 69, 3), (82, .pop, 1), (83, .return_, 1)]
theorem dc_De_read : ∀ q ∈ dl_De_read, decode (zd_yb m_De_read) q.1 = .ok q.2 := by decide +kernel
def cd_De_read (l : Launch) (B : zd_B) : List (Nat × zd_S) := [(0, oc_iload 1 1), (1, oc_calls l B m_De_demandRegister 1 4), (4, oc_aload 0 5), (5, oc_getf B 0 1 8), (8, oc_callv l B 3 m_Dr_isNumberText 0 11), (11, oc_if_ne 24 14), (14, oc_throw B 10), (24, oc_aload 0 25), (25, oc_getf B 0 1 28), (28, oc_callv l B 3 m_Dr_saidScale 0 31), (31, oc_calls l B m_De_demandScale 1 34), (34, oc_aload 0 35), (35, oc_getf B 0 1 38), (38, oc_aload 0 39), (39, oc_getf B 0 5 42), (42, oc_getf B 6 0 45), (45, oc_callv l B 3 m_Dr_fill 1 48), (48, oc_aload 0 49), (49, oc_getf B 0 5 52), (52, oc_aload 0 53), (53, oc_getf B 0 1 56), (56, oc_callv l B 3 m_Dr_saysNegative 0 59), (59, oc_aload 0 60), (60, oc_getf B 0 1 63), (63, oc_callv l B 3 m_Dr_saidScale 0 66), (66, oc_l2i 67), (67, oc_callv l B 6 m_Ru_describe 2 70), (70, oc_aload 0 71), (71, oc_iload 1 72), (72, oc_callv l B 0 m_De_keep 1 75), (75, oc_aload 0 76), (76, oc_getf B 0 1 79), (79, oc_callv l B 3 m_Dr_clear 0 82), (82, oc_pop 83), (83, oc_vret)]
set_option maxRecDepth 20000 in
theorem ok_De_read {l : Launch} {B : zd_B} (hG : zd_G B) (hl : l.stackTraces = false) : ∀ q ∈ cd_De_read l B, zd_ok l B m_De_read q.1 q.2 := by
  unfold cd_De_read
  refine zd_ac (ok_iload_n (l := l) (B := B) (y := m_De_read) (pc := 0) (k := 1) rfl (zd_dr dc_De_read 0 rfl)) ?_
  refine zd_ac (ok_calls (l := l) (B := B) (y := m_De_read) (pc := 1) hG cf_De_read_De_demandRegister rfl (List.mem_of_getElem? (i := 297) (by decide +kernel)) (List.mem_of_getElem? (i := 298) (by decide +kernel)) (List.mem_of_getElem? (i := 56) (by decide +kernel)) (zd_dr dc_De_read 1 rfl)) ?_
  refine zd_ac (ok_aload_n (l := l) (B := B) (y := m_De_read) (pc := 4) (k := 0) rfl (zd_dr dc_De_read 2 rfl)) ?_
  refine zd_ac (ok_getf (l := l) (B := B) (y := m_De_read) (pc := 5) hG (C := zR0) (T := zT0) (N := 8) (ci := 0) (k := 1) rfl zl0 (by decide) (List.mem_of_getElem? (i := 235) (by decide +kernel)) (zd_dr dc_De_read 3 rfl)) ?_
  refine zd_ac (ok_callv (l := l) (B := B) (y := m_De_read) (pc := 8) hG (ci := 3) rfl cf_De_read_Dr_isNumberText rfl (List.mem_of_getElem? (i := 369) (by decide +kernel)) (List.mem_of_getElem? (i := 370) (by decide +kernel)) (List.mem_of_getElem? (i := 371) (by decide +kernel)) (zd_dr dc_De_read 4 rfl)) ?_
  refine zd_ac (ok_if_ne (l := l) (B := B) (y := m_De_read) (pc := 11) (zd_dr dc_De_read 5 rfl) (by decide)) ?_
  refine zd_ac (ok_throw (l := l) (B := B) (y := m_De_read) (pc := 14) hG hl zE10 zx_De_80_82_84 rfl (by decide) (by decide) (zd_dr dc_De_read 6 rfl) (zd_dr dc_De_read 7 rfl) (zd_dr dc_De_read 8 rfl) (zd_dr dc_De_read 9 rfl) (zd_dr dc_De_read 10 rfl)) ?_
  refine zd_ac (ok_aload_n (l := l) (B := B) (y := m_De_read) (pc := 24) (k := 0) rfl (zd_dr dc_De_read 11 rfl)) ?_
  refine zd_ac (ok_getf (l := l) (B := B) (y := m_De_read) (pc := 25) hG (C := zR0) (T := zT0) (N := 8) (ci := 0) (k := 1) rfl zl0 (by decide) (List.mem_of_getElem? (i := 235) (by decide +kernel)) (zd_dr dc_De_read 12 rfl)) ?_
  refine zd_ac (ok_callv (l := l) (B := B) (y := m_De_read) (pc := 28) hG (ci := 3) rfl cf_De_read_Dr_saidScale rfl (List.mem_of_getElem? (i := 405) (by decide +kernel)) (List.mem_of_getElem? (i := 406) (by decide +kernel)) (List.mem_of_getElem? (i := 407) (by decide +kernel)) (zd_dr dc_De_read 13 rfl)) ?_
  refine zd_ac (ok_calls (l := l) (B := B) (y := m_De_read) (pc := 31) hG cf_De_read_De_demandScale rfl (List.mem_of_getElem? (i := 409) (by decide +kernel)) (List.mem_of_getElem? (i := 410) (by decide +kernel)) (List.mem_of_getElem? (i := 56) (by decide +kernel)) (zd_dr dc_De_read 14 rfl)) ?_
  refine zd_ac (ok_aload_n (l := l) (B := B) (y := m_De_read) (pc := 34) (k := 0) rfl (zd_dr dc_De_read 15 rfl)) ?_
  refine zd_ac (ok_getf (l := l) (B := B) (y := m_De_read) (pc := 35) hG (C := zR0) (T := zT0) (N := 8) (ci := 0) (k := 1) rfl zl0 (by decide) (List.mem_of_getElem? (i := 235) (by decide +kernel)) (zd_dr dc_De_read 16 rfl)) ?_
  refine zd_ac (ok_aload_n (l := l) (B := B) (y := m_De_read) (pc := 38) (k := 0) rfl (zd_dr dc_De_read 17 rfl)) ?_
  refine zd_ac (ok_getf (l := l) (B := B) (y := m_De_read) (pc := 39) hG (C := zR0) (T := zT0) (N := 8) (ci := 0) (k := 5) rfl zl0 (by decide) (List.mem_of_getElem? (i := 239) (by decide +kernel)) (zd_dr dc_De_read 18 rfl)) ?_
  refine zd_ac (ok_getf (l := l) (B := B) (y := m_De_read) (pc := 42) hG (C := zR6) (T := zT6) (N := 4) (ci := 6) (k := 0) rfl zl6 (by decide) (List.mem_of_getElem? (i := 214) (by decide +kernel)) (zd_dr dc_De_read 19 rfl)) ?_
  refine zd_ac (ok_callv (l := l) (B := B) (y := m_De_read) (pc := 45) hG (ci := 3) rfl cf_De_read_Dr_fill rfl (List.mem_of_getElem? (i := 433) (by decide +kernel)) (List.mem_of_getElem? (i := 434) (by decide +kernel)) (List.mem_of_getElem? (i := 435) (by decide +kernel)) (zd_dr dc_De_read 20 rfl)) ?_
  refine zd_ac (ok_aload_n (l := l) (B := B) (y := m_De_read) (pc := 48) (k := 0) rfl (zd_dr dc_De_read 21 rfl)) ?_
  refine zd_ac (ok_getf (l := l) (B := B) (y := m_De_read) (pc := 49) hG (C := zR0) (T := zT0) (N := 8) (ci := 0) (k := 5) rfl zl0 (by decide) (List.mem_of_getElem? (i := 239) (by decide +kernel)) (zd_dr dc_De_read 22 rfl)) ?_
  refine zd_ac (ok_aload_n (l := l) (B := B) (y := m_De_read) (pc := 52) (k := 0) rfl (zd_dr dc_De_read 23 rfl)) ?_
  refine zd_ac (ok_getf (l := l) (B := B) (y := m_De_read) (pc := 53) hG (C := zR0) (T := zT0) (N := 8) (ci := 0) (k := 1) rfl zl0 (by decide) (List.mem_of_getElem? (i := 235) (by decide +kernel)) (zd_dr dc_De_read 24 rfl)) ?_
  refine zd_ac (ok_callv (l := l) (B := B) (y := m_De_read) (pc := 56) hG (ci := 3) rfl cf_De_read_Dr_saysNegative rfl (List.mem_of_getElem? (i := 458) (by decide +kernel)) (List.mem_of_getElem? (i := 459) (by decide +kernel)) (List.mem_of_getElem? (i := 460) (by decide +kernel)) (zd_dr dc_De_read 25 rfl)) ?_
  refine zd_ac (ok_aload_n (l := l) (B := B) (y := m_De_read) (pc := 59) (k := 0) rfl (zd_dr dc_De_read 26 rfl)) ?_
  refine zd_ac (ok_getf (l := l) (B := B) (y := m_De_read) (pc := 60) hG (C := zR0) (T := zT0) (N := 8) (ci := 0) (k := 1) rfl zl0 (by decide) (List.mem_of_getElem? (i := 235) (by decide +kernel)) (zd_dr dc_De_read 27 rfl)) ?_
  refine zd_ac (ok_callv (l := l) (B := B) (y := m_De_read) (pc := 63) hG (ci := 3) rfl cf_De_read_Dr_saidScale rfl (List.mem_of_getElem? (i := 405) (by decide +kernel)) (List.mem_of_getElem? (i := 406) (by decide +kernel)) (List.mem_of_getElem? (i := 407) (by decide +kernel)) (zd_dr dc_De_read 28 rfl)) ?_
  refine zd_ac (ok_l2i (l := l) (B := B) (y := m_De_read) (pc := 66) (zd_dr dc_De_read 29 rfl)) ?_
  refine zd_ac (ok_callv (l := l) (B := B) (y := m_De_read) (pc := 67) hG (ci := 6) rfl cf_De_read_Ru_describe rfl (List.mem_of_getElem? (i := 462) (by decide +kernel)) (List.mem_of_getElem? (i := 463) (by decide +kernel)) (List.mem_of_getElem? (i := 464) (by decide +kernel)) (zd_dr dc_De_read 30 rfl)) ?_
  refine zd_ac (ok_aload_n (l := l) (B := B) (y := m_De_read) (pc := 70) (k := 0) rfl (zd_dr dc_De_read 31 rfl)) ?_
  refine zd_ac (ok_iload_n (l := l) (B := B) (y := m_De_read) (pc := 71) (k := 1) rfl (zd_dr dc_De_read 32 rfl)) ?_
  refine zd_ac (ok_callv (l := l) (B := B) (y := m_De_read) (pc := 72) hG (ci := 0) rfl cf_De_read_De_keep rfl (List.mem_of_getElem? (i := 466) (by decide +kernel)) (List.mem_of_getElem? (i := 468) (by decide +kernel)) (List.mem_of_getElem? (i := 4) (by decide +kernel)) (zd_dr dc_De_read 33 rfl)) ?_
  refine zd_ac (ok_aload_n (l := l) (B := B) (y := m_De_read) (pc := 75) (k := 0) rfl (zd_dr dc_De_read 34 rfl)) ?_
  refine zd_ac (ok_getf (l := l) (B := B) (y := m_De_read) (pc := 76) hG (C := zR0) (T := zT0) (N := 8) (ci := 0) (k := 1) rfl zl0 (by decide) (List.mem_of_getElem? (i := 235) (by decide +kernel)) (zd_dr dc_De_read 35 rfl)) ?_
  refine zd_ac (ok_callv (l := l) (B := B) (y := m_De_read) (pc := 79) hG (ci := 3) rfl cf_De_read_Dr_clear rfl (List.mem_of_getElem? (i := 275) (by decide +kernel)) (List.mem_of_getElem? (i := 276) (by decide +kernel)) (List.mem_of_getElem? (i := 277) (by decide +kernel)) (zd_dr dc_De_read 36 rfl)) ?_
  refine zd_ac (ok_pop (l := l) (B := B) (y := m_De_read) (pc := 82) (zd_dr dc_De_read 37 rfl)) ?_
  refine zd_ac (ok_vret (l := l) (B := B) (y := m_De_read) (pc := 83) rfl (zd_dr dc_De_read 38 rfl)) ?_
  exact zd_an
def dl_De_written : List (Nat × Instr × Nat) := [(0, .iload_n 1, 1), (1, .invokestatic 73, 3), (4, .iload_n 2, 1), (5, .ifCond .lt (8), 3), (8, .iload_n 2, 1), (9, .iconst (3), 1), (10, .if_icmp .lt (13), 3), (13, .new 188, 3), (16, .dup, 1), (17, .ldc 245, 2), (19, .invokespecial 192, 3), (22, .athrow, 1), (23, .aload_n 0, 1), (24, .getfield 26, 3), (27, .aload_n 0, 1), (28, .getfield 11, 3), (31, .iload_n 1, 1), (32, .aaload, 1), (33, .iload_n 2, 1), (34, .invokevirtual 247, 3), (37, .ireturn, 1)]
theorem dc_De_written : ∀ q ∈ dl_De_written, decode (zd_yb m_De_written) q.1 = .ok q.2 := by decide +kernel
def cd_De_written (l : Launch) (B : zd_B) : List (Nat × zd_S) := [(0, oc_iload 1 1), (1, oc_calls l B m_De_demandRegister 1 4), (4, oc_iload 2 5), (5, oc_if_lt 13 8), (8, oc_iload 2 9), (9, oc_ci (3) 10), (10, oc_icmp_lt 23 13), (13, oc_throw B 9), (23, oc_aload 0 24), (24, oc_getf B 0 2 27), (27, oc_aload 0 28), (28, oc_getf B 0 0 31), (31, oc_iload 1 32), (32, oc_aaload B 33), (33, oc_iload 2 34), (34, oc_callv l B 7 m_Te_spell 2 37), (37, oc_iret .int)]
set_option maxRecDepth 20000 in
theorem ok_De_written {l : Launch} {B : zd_B} (hG : zd_G B) (hl : l.stackTraces = false) : ∀ q ∈ cd_De_written l B, zd_ok l B m_De_written q.1 q.2 := by
  unfold cd_De_written
  refine zd_ac (ok_iload_n (l := l) (B := B) (y := m_De_written) (pc := 0) (k := 1) rfl (zd_dr dc_De_written 0 rfl)) ?_
  refine zd_ac (ok_calls (l := l) (B := B) (y := m_De_written) (pc := 1) hG cf_De_written_De_demandRegister rfl (List.mem_of_getElem? (i := 297) (by decide +kernel)) (List.mem_of_getElem? (i := 298) (by decide +kernel)) (List.mem_of_getElem? (i := 56) (by decide +kernel)) (zd_dr dc_De_written 1 rfl)) ?_
  refine zd_ac (ok_iload_n (l := l) (B := B) (y := m_De_written) (pc := 4) (k := 2) rfl (zd_dr dc_De_written 2 rfl)) ?_
  refine zd_ac (ok_if_lt (l := l) (B := B) (y := m_De_written) (pc := 5) (zd_dr dc_De_written 3 rfl) (by decide)) ?_
  refine zd_ac (ok_iload_n (l := l) (B := B) (y := m_De_written) (pc := 8) (k := 2) rfl (zd_dr dc_De_written 4 rfl)) ?_
  refine zd_ac (ok_iconst (l := l) (B := B) (y := m_De_written) (pc := 9) (n := (3)) (zd_dr dc_De_written 5 rfl) rfl) ?_
  refine zd_ac (ok_icmp_lt (l := l) (B := B) (y := m_De_written) (pc := 10) (zd_dr dc_De_written 6 rfl) (by decide)) ?_
  refine zd_ac (ok_throw (l := l) (B := B) (y := m_De_written) (pc := 13) hG hl zE9 zx_De_188_245_192 rfl (by decide) (by decide) (zd_dr dc_De_written 7 rfl) (zd_dr dc_De_written 8 rfl) (zd_dr dc_De_written 9 rfl) (zd_dr dc_De_written 10 rfl) (zd_dr dc_De_written 11 rfl)) ?_
  refine zd_ac (ok_aload_n (l := l) (B := B) (y := m_De_written) (pc := 23) (k := 0) rfl (zd_dr dc_De_written 12 rfl)) ?_
  refine zd_ac (ok_getf (l := l) (B := B) (y := m_De_written) (pc := 24) hG (C := zR0) (T := zT0) (N := 8) (ci := 0) (k := 2) rfl zl0 (by decide) (List.mem_of_getElem? (i := 236) (by decide +kernel)) (zd_dr dc_De_written 13 rfl)) ?_
  refine zd_ac (ok_aload_n (l := l) (B := B) (y := m_De_written) (pc := 27) (k := 0) rfl (zd_dr dc_De_written 14 rfl)) ?_
  refine zd_ac (ok_getf (l := l) (B := B) (y := m_De_written) (pc := 28) hG (C := zR0) (T := zT0) (N := 8) (ci := 0) (k := 0) rfl zl0 (by decide) (List.mem_of_getElem? (i := 234) (by decide +kernel)) (zd_dr dc_De_written 15 rfl)) ?_
  refine zd_ac (ok_iload_n (l := l) (B := B) (y := m_De_written) (pc := 31) (k := 1) rfl (zd_dr dc_De_written 16 rfl)) ?_
  refine zd_ac (ok_aaload (l := l) (B := B) (y := m_De_written) (pc := 32) hG (zd_dr dc_De_written 17 rfl)) ?_
  refine zd_ac (ok_iload_n (l := l) (B := B) (y := m_De_written) (pc := 33) (k := 2) rfl (zd_dr dc_De_written 18 rfl)) ?_
  refine zd_ac (ok_callv (l := l) (B := B) (y := m_De_written) (pc := 34) hG (ci := 7) rfl cf_De_written_Te_spell rfl (List.mem_of_getElem? (i := 829) (by decide +kernel)) (List.mem_of_getElem? (i := 830) (by decide +kernel)) (List.mem_of_getElem? (i := 831) (by decide +kernel)) (zd_dr dc_De_written 19 rfl)) ?_
  refine zd_ac (ok_iret (l := l) (B := B) (y := m_De_written) (pc := 37) rfl (zd_dr dc_De_written 20 rfl)) ?_
  exact zd_an
def dl_De_character : List (Nat × Instr × Nat) := [(0, .aload_n 0, 1), (1, .getfield 26, 3), (4, .iload_n 1, 1), (5, .invokevirtual 251, 3), (8, .ireturn, 1)]
theorem dc_De_character : ∀ q ∈ dl_De_character, decode (zd_yb m_De_character) q.1 = .ok q.2 := by decide +kernel
def cd_De_character (l : Launch) (B : zd_B) : List (Nat × zd_S) := [(0, oc_aload 0 1), (1, oc_getf B 0 2 4), (4, oc_iload 1 5), (5, oc_callv l B 7 m_Te_at 1 8), (8, oc_iret .int)]
set_option maxRecDepth 20000 in
theorem ok_De_character {l : Launch} {B : zd_B} (hG : zd_G B) (hl : l.stackTraces = false) : ∀ q ∈ cd_De_character l B, zd_ok l B m_De_character q.1 q.2 := by
  unfold cd_De_character
  refine zd_ac (ok_aload_n (l := l) (B := B) (y := m_De_character) (pc := 0) (k := 0) rfl (zd_dr dc_De_character 0 rfl)) ?_
  refine zd_ac (ok_getf (l := l) (B := B) (y := m_De_character) (pc := 1) hG (C := zR0) (T := zT0) (N := 8) (ci := 0) (k := 2) rfl zl0 (by decide) (List.mem_of_getElem? (i := 236) (by decide +kernel)) (zd_dr dc_De_character 1 rfl)) ?_
  refine zd_ac (ok_iload_n (l := l) (B := B) (y := m_De_character) (pc := 4) (k := 1) rfl (zd_dr dc_De_character 2 rfl)) ?_
  refine zd_ac (ok_callv (l := l) (B := B) (y := m_De_character) (pc := 5) hG (ci := 7) rfl cf_De_character_Te_at rfl (List.mem_of_getElem? (i := 283) (by decide +kernel)) (List.mem_of_getElem? (i := 284) (by decide +kernel)) (List.mem_of_getElem? (i := 285) (by decide +kernel)) (zd_dr dc_De_character 3 rfl)) ?_
  refine zd_ac (ok_iret (l := l) (B := B) (y := m_De_character) (pc := 8) rfl (zd_dr dc_De_character 4 rfl)) ?_
  exact zd_an

/-! written by gencode.py: code of the law's calls -/
theorem cf_La_add_De_add : zd_cf m_La_add m_De_add 4 := ⟨(List.mem_of_getElem? (i := 512) (by decide +kernel)), by decide +kernel, by decide, by decide, ⟨by decide, by decide⟩, by decide +kernel⟩
theorem cf_La_compare_De_compare : zd_cf m_La_compare m_De_compare 2 := ⟨(List.mem_of_getElem? (i := 786) (by decide +kernel)), by decide +kernel, by decide, by decide, ⟨by decide, by decide⟩, by decide +kernel⟩
theorem cf_La_divide_De_divide : zd_cf m_La_divide m_De_divide 5 := ⟨(List.mem_of_getElem? (i := 589) (by decide +kernel)), by decide +kernel, by decide, by decide, ⟨by decide, by decide⟩, by decide +kernel⟩
theorem cf_La_multiply_De_multiply : zd_cf m_La_multiply m_De_multiply 3 := ⟨(List.mem_of_getElem? (i := 578) (by decide +kernel)), by decide +kernel, by decide, by decide, ⟨by decide, by decide⟩, by decide +kernel⟩
theorem cf_La_negate_De_negate : zd_cf m_La_negate m_De_negate 2 := ⟨(List.mem_of_getElem? (i := 779) (by decide +kernel)), by decide +kernel, by decide, by decide, ⟨by decide, by decide⟩, by decide +kernel⟩
theorem cf_La_power_De_power : zd_cf m_La_power m_De_power 3 := ⟨(List.mem_of_getElem? (i := 708) (by decide +kernel)), by decide +kernel, by decide, by decide, ⟨by decide, by decide⟩, by decide +kernel⟩
theorem cf_La_put_De_put : zd_cf m_La_put m_De_put 3 := ⟨(List.mem_of_getElem? (i := 499) (by decide +kernel)), by decide +kernel, by decide, by decide, ⟨by decide, by decide⟩, by decide +kernel⟩
theorem cf_La_quotient_De_quotient : zd_cf m_La_quotient m_De_quotient 5 := ⟨(List.mem_of_getElem? (i := 670) (by decide +kernel)), by decide +kernel, by decide, by decide, ⟨by decide, by decide⟩, by decide +kernel⟩
theorem cf_La_read_De_read : zd_cf m_La_read m_De_read 1 := ⟨(List.mem_of_getElem? (i := 296) (by decide +kernel)), by decide +kernel, by decide, by decide, ⟨by decide, by decide⟩, by decide +kernel⟩
theorem cf_La_remainder_De_remainder : zd_cf m_La_remainder m_De_remainder 3 := ⟨(List.mem_of_getElem? (i := 696) (by decide +kernel)), by decide +kernel, by decide, by decide, ⟨by decide, by decide⟩, by decide +kernel⟩
theorem cf_La_root_De_root : zd_cf m_La_root m_De_root 4 := ⟨(List.mem_of_getElem? (i := 720) (by decide +kernel)), by decide +kernel, by decide, by decide, ⟨by decide, by decide⟩, by decide +kernel⟩
theorem cf_La_round_De_round : zd_cf m_La_round m_De_round 4 := ⟨(List.mem_of_getElem? (i := 757) (by decide +kernel)), by decide +kernel, by decide, by decide, ⟨by decide, by decide⟩, by decide +kernel⟩
theorem cf_La_shift_De_shift : zd_cf m_La_shift m_De_shift 3 := ⟨(List.mem_of_getElem? (i := 772) (by decide +kernel)), by decide +kernel, by decide, by decide, ⟨by decide, by decide⟩, by decide +kernel⟩
theorem cf_La_strip_De_strip : zd_cf m_La_strip m_De_strip 2 := ⟨(List.mem_of_getElem? (i := 764) (by decide +kernel)), by decide +kernel, by decide, by decide, ⟨by decide, by decide⟩, by decide +kernel⟩
theorem cf_La_toScale_De_toScale : zd_cf m_La_toScale m_De_toScale 4 := ⟨(List.mem_of_getElem? (i := 750) (by decide +kernel)), by decide +kernel, by decide, by decide, ⟨by decide, by decide⟩, by decide +kernel⟩
theorem cf_La_told_De_told : zd_cf m_La_told m_De_told 2 := ⟨(List.mem_of_getElem? (i := 803) (by decide +kernel)), by decide +kernel, by decide, by decide, ⟨by decide, by decide⟩, by decide +kernel⟩
theorem cf_La_written_De_written : zd_cf m_La_written m_De_written 2 := ⟨(List.mem_of_getElem? (i := 827) (by decide +kernel)), by decide +kernel, by decide, by decide, ⟨by decide, by decide⟩, by decide +kernel⟩
def zh_La_read : List (Nat × Nat × Nat × Nat) := [(0, 5, 8, 13), (0, 5, 11, 15), (0, 5, 14, 17)]
def dl_La_read : List (Nat × Instr × Nat) := [(0, .aload_n 0, 1), (1, .iload_n 1, 1), (2, .invokevirtual 7, 3), (5, .goto (12), 3), (8, .astore_n 2, 1), (9, .iconst (1), 1), (10, .ireturn, 1), (11, .astore_n 2, 1), (12, .iconst (2), 1), (13, .ireturn, 1), (14, .astore_n 2, 1), (15, .iconst (3), 1), (16, .ireturn, 1), (17, .iconst (0), 1), (18, .ireturn, 1)]
theorem dc_La_read : ∀ q ∈ dl_La_read, decode (zd_yb m_La_read) q.1 = .ok q.2 := by decide +kernel
def cd_La_read (l : Launch) (B : zd_B) : List (Nat × zd_S) := [(0, oc_aload 0 1), (1, oc_iload 1 2), (2, oc_callvh l B zh_La_read 0 m_De_read 1 2), (5, oc_goto 17), (8, oc_astore 2 9), (9, oc_ci (1) 10), (10, oc_iret .int), (11, oc_astore 2 12), (12, oc_ci (2) 13), (13, oc_iret .int), (14, oc_astore 2 15), (15, oc_ci (3) 16), (16, oc_iret .int), (17, oc_ci (0) 18), (18, oc_iret .int)]
set_option maxRecDepth 20000 in
theorem ok_La_read {l : Launch} {B : zd_B} (hG : zd_G B) (hl : l.stackTraces = false) (hN : zd_N B) : ∀ q ∈ cd_La_read l B, zd_ok l B m_La_read q.1 q.2 := by
  unfold cd_La_read
  refine zd_ac (ok_aload_n (l := l) (B := B) (y := m_La_read) (pc := 0) (k := 0) rfl (zd_dr dc_La_read 0 rfl)) ?_
  refine zd_ac (ok_iload_n (l := l) (B := B) (y := m_La_read) (pc := 1) (k := 1) rfl (zd_dr dc_La_read 1 rfl)) ?_
  refine zd_ac (ok_callvh (l := l) (B := B) (y := m_La_read) (pc := 2) hG hN (ci := 0) rfl cf_La_read_De_read rfl rfl (by decide) (List.mem_of_getElem? (i := 293) (by decide +kernel)) (List.mem_of_getElem? (i := 294) (by decide +kernel)) (List.mem_of_getElem? (i := 295) (by decide +kernel)) (zd_dr dc_La_read 2 rfl)) ?_
  refine zd_ac (ok_goto (l := l) (B := B) (y := m_La_read) (pc := 5) (zd_dr dc_La_read 3 rfl) (by decide)) ?_
  refine zd_ac (ok_astore_n (l := l) (B := B) (y := m_La_read) (pc := 8) (k := 2) rfl (zd_dr dc_La_read 4 rfl) (by decide)) ?_
  refine zd_ac (ok_iconst (l := l) (B := B) (y := m_La_read) (pc := 9) (n := (1)) (zd_dr dc_La_read 5 rfl) rfl) ?_
  refine zd_ac (ok_iret (l := l) (B := B) (y := m_La_read) (pc := 10) rfl (zd_dr dc_La_read 6 rfl)) ?_
  refine zd_ac (ok_astore_n (l := l) (B := B) (y := m_La_read) (pc := 11) (k := 2) rfl (zd_dr dc_La_read 7 rfl) (by decide)) ?_
  refine zd_ac (ok_iconst (l := l) (B := B) (y := m_La_read) (pc := 12) (n := (2)) (zd_dr dc_La_read 8 rfl) rfl) ?_
  refine zd_ac (ok_iret (l := l) (B := B) (y := m_La_read) (pc := 13) rfl (zd_dr dc_La_read 9 rfl)) ?_
  refine zd_ac (ok_astore_n (l := l) (B := B) (y := m_La_read) (pc := 14) (k := 2) rfl (zd_dr dc_La_read 10 rfl) (by decide)) ?_
  refine zd_ac (ok_iconst (l := l) (B := B) (y := m_La_read) (pc := 15) (n := (3)) (zd_dr dc_La_read 11 rfl) rfl) ?_
  refine zd_ac (ok_iret (l := l) (B := B) (y := m_La_read) (pc := 16) rfl (zd_dr dc_La_read 12 rfl)) ?_
  refine zd_ac (ok_iconst (l := l) (B := B) (y := m_La_read) (pc := 17) (n := (0)) (zd_dr dc_La_read 13 rfl) rfl) ?_
  refine zd_ac (ok_iret (l := l) (B := B) (y := m_La_read) (pc := 18) rfl (zd_dr dc_La_read 14 rfl)) ?_
  exact zd_an
def zh_La_put : List (Nat × Nat × Nat × Nat) := [(0, 8, 11, 13), (0, 8, 15, 17)]
def dl_La_put : List (Nat × Instr × Nat) := [(0, .aload_n 0, 1), (1, .iload_n 1, 1), (2, .lload_n 2, 1), (3, .iload 4, 2), (5, .invokevirtual 19, 3), (8, .goto (11), 3), (11, .astore 5, 2), (13, .iconst (1), 1), (14, .ireturn, 1), (15, .astore 5, 2), (17, .iconst (2), 1), (18, .ireturn, 1), (19, .iconst (0), 1), (20, .ireturn, 1)]
theorem dc_La_put : ∀ q ∈ dl_La_put, decode (zd_yb m_La_put) q.1 = .ok q.2 := by decide +kernel
def cd_La_put (l : Launch) (B : zd_B) : List (Nat × zd_S) := [(0, oc_aload 0 1), (1, oc_iload 1 2), (2, oc_lload 2 3), (3, oc_iload 4 5), (5, oc_callvh l B zh_La_put 0 m_De_put 3 5), (8, oc_goto 19), (11, oc_astore 5 13), (13, oc_ci (1) 14), (14, oc_iret .int), (15, oc_astore 5 17), (17, oc_ci (2) 18), (18, oc_iret .int), (19, oc_ci (0) 20), (20, oc_iret .int)]
set_option maxRecDepth 20000 in
theorem ok_La_put {l : Launch} {B : zd_B} (hG : zd_G B) (hl : l.stackTraces = false) (hN : zd_N B) : ∀ q ∈ cd_La_put l B, zd_ok l B m_La_put q.1 q.2 := by
  unfold cd_La_put
  refine zd_ac (ok_aload_n (l := l) (B := B) (y := m_La_put) (pc := 0) (k := 0) rfl (zd_dr dc_La_put 0 rfl)) ?_
  refine zd_ac (ok_iload_n (l := l) (B := B) (y := m_La_put) (pc := 1) (k := 1) rfl (zd_dr dc_La_put 1 rfl)) ?_
  refine zd_ac (ok_lload_n (l := l) (B := B) (y := m_La_put) (pc := 2) (k := 2) rfl (zd_dr dc_La_put 2 rfl)) ?_
  refine zd_ac (ok_iload (l := l) (B := B) (y := m_La_put) (pc := 3) (zd_dr dc_La_put 3 rfl)) ?_
  refine zd_ac (ok_callvh (l := l) (B := B) (y := m_La_put) (pc := 5) hG hN (ci := 0) rfl cf_La_put_De_put rfl rfl (by decide) (List.mem_of_getElem? (i := 496) (by decide +kernel)) (List.mem_of_getElem? (i := 497) (by decide +kernel)) (List.mem_of_getElem? (i := 498) (by decide +kernel)) (zd_dr dc_La_put 4 rfl)) ?_
  refine zd_ac (ok_goto (l := l) (B := B) (y := m_La_put) (pc := 8) (zd_dr dc_La_put 5 rfl) (by decide)) ?_
  refine zd_ac (ok_astore (l := l) (B := B) (y := m_La_put) (pc := 11) (zd_dr dc_La_put 6 rfl) (by decide)) ?_
  refine zd_ac (ok_iconst (l := l) (B := B) (y := m_La_put) (pc := 13) (n := (1)) (zd_dr dc_La_put 7 rfl) rfl) ?_
  refine zd_ac (ok_iret (l := l) (B := B) (y := m_La_put) (pc := 14) rfl (zd_dr dc_La_put 8 rfl)) ?_
  refine zd_ac (ok_astore (l := l) (B := B) (y := m_La_put) (pc := 15) (zd_dr dc_La_put 9 rfl) (by decide)) ?_
  refine zd_ac (ok_iconst (l := l) (B := B) (y := m_La_put) (pc := 17) (n := (2)) (zd_dr dc_La_put 10 rfl) rfl) ?_
  refine zd_ac (ok_iret (l := l) (B := B) (y := m_La_put) (pc := 18) rfl (zd_dr dc_La_put 11 rfl)) ?_
  refine zd_ac (ok_iconst (l := l) (B := B) (y := m_La_put) (pc := 19) (n := (0)) (zd_dr dc_La_put 12 rfl) rfl) ?_
  refine zd_ac (ok_iret (l := l) (B := B) (y := m_La_put) (pc := 20) rfl (zd_dr dc_La_put 13 rfl)) ?_
  exact zd_an
def zh_La_add : List (Nat × Nat × Nat × Nat) := [(0, 9, 12, 13), (0, 9, 16, 17)]
def dl_La_add : List (Nat × Instr × Nat) := [(0, .aload_n 0, 1), (1, .iload_n 1, 1), (2, .iload_n 2, 1), (3, .iload_n 3, 1), (4, .iload 4, 2), (6, .invokevirtual 23, 3), (9, .goto (11), 3), (12, .astore 5, 2), (14, .iconst (1), 1), (15, .ireturn, 1), (16, .astore 5, 2), (18, .iconst (2), 1), (19, .ireturn, 1), (20, .iconst (0), 1), (21, .ireturn, 1)]
theorem dc_La_add : ∀ q ∈ dl_La_add, decode (zd_yb m_La_add) q.1 = .ok q.2 := by decide +kernel
def cd_La_add (l : Launch) (B : zd_B) : List (Nat × zd_S) := [(0, oc_aload 0 1), (1, oc_iload 1 2), (2, oc_iload 2 3), (3, oc_iload 3 4), (4, oc_iload 4 6), (6, oc_callvh l B zh_La_add 0 m_De_add 4 6), (9, oc_goto 20), (12, oc_astore 5 14), (14, oc_ci (1) 15), (15, oc_iret .int), (16, oc_astore 5 18), (18, oc_ci (2) 19), (19, oc_iret .int), (20, oc_ci (0) 21), (21, oc_iret .int)]
set_option maxRecDepth 20000 in
theorem ok_La_add {l : Launch} {B : zd_B} (hG : zd_G B) (hl : l.stackTraces = false) (hN : zd_N B) : ∀ q ∈ cd_La_add l B, zd_ok l B m_La_add q.1 q.2 := by
  unfold cd_La_add
  refine zd_ac (ok_aload_n (l := l) (B := B) (y := m_La_add) (pc := 0) (k := 0) rfl (zd_dr dc_La_add 0 rfl)) ?_
  refine zd_ac (ok_iload_n (l := l) (B := B) (y := m_La_add) (pc := 1) (k := 1) rfl (zd_dr dc_La_add 1 rfl)) ?_
  refine zd_ac (ok_iload_n (l := l) (B := B) (y := m_La_add) (pc := 2) (k := 2) rfl (zd_dr dc_La_add 2 rfl)) ?_
  refine zd_ac (ok_iload_n (l := l) (B := B) (y := m_La_add) (pc := 3) (k := 3) rfl (zd_dr dc_La_add 3 rfl)) ?_
  refine zd_ac (ok_iload (l := l) (B := B) (y := m_La_add) (pc := 4) (zd_dr dc_La_add 4 rfl)) ?_
  refine zd_ac (ok_callvh (l := l) (B := B) (y := m_La_add) (pc := 6) hG hN (ci := 0) rfl cf_La_add_De_add rfl rfl (by decide) (List.mem_of_getElem? (i := 509) (by decide +kernel)) (List.mem_of_getElem? (i := 510) (by decide +kernel)) (List.mem_of_getElem? (i := 511) (by decide +kernel)) (zd_dr dc_La_add 5 rfl)) ?_
  refine zd_ac (ok_goto (l := l) (B := B) (y := m_La_add) (pc := 9) (zd_dr dc_La_add 6 rfl) (by decide)) ?_
  refine zd_ac (ok_astore (l := l) (B := B) (y := m_La_add) (pc := 12) (zd_dr dc_La_add 7 rfl) (by decide)) ?_
  refine zd_ac (ok_iconst (l := l) (B := B) (y := m_La_add) (pc := 14) (n := (1)) (zd_dr dc_La_add 8 rfl) rfl) ?_
  refine zd_ac (ok_iret (l := l) (B := B) (y := m_La_add) (pc := 15) rfl (zd_dr dc_La_add 9 rfl)) ?_
  refine zd_ac (ok_astore (l := l) (B := B) (y := m_La_add) (pc := 16) (zd_dr dc_La_add 10 rfl) (by decide)) ?_
  refine zd_ac (ok_iconst (l := l) (B := B) (y := m_La_add) (pc := 18) (n := (2)) (zd_dr dc_La_add 11 rfl) rfl) ?_
  refine zd_ac (ok_iret (l := l) (B := B) (y := m_La_add) (pc := 19) rfl (zd_dr dc_La_add 12 rfl)) ?_
  refine zd_ac (ok_iconst (l := l) (B := B) (y := m_La_add) (pc := 20) (n := (0)) (zd_dr dc_La_add 13 rfl) rfl) ?_
  refine zd_ac (ok_iret (l := l) (B := B) (y := m_La_add) (pc := 21) rfl (zd_dr dc_La_add 14 rfl)) ?_
  exact zd_an
def zh_La_multiply : List (Nat × Nat × Nat × Nat) := [(0, 7, 10, 13), (0, 7, 14, 17)]
def dl_La_multiply : List (Nat × Instr × Nat) := [(0, .aload_n 0, 1), (1, .iload_n 1, 1), (2, .iload_n 2, 1), (3, .iload_n 3, 1), (4, .invokevirtual 27, 3), (7, .goto (11), 3), (10, .astore 4, 2), (12, .iconst (1), 1), (13, .ireturn, 1), (14, .astore 4, 2), (16, .iconst (2), 1), (17, .ireturn, 1), (18, .iconst (0), 1), (19, .ireturn, 1)]
theorem dc_La_multiply : ∀ q ∈ dl_La_multiply, decode (zd_yb m_La_multiply) q.1 = .ok q.2 := by decide +kernel
def cd_La_multiply (l : Launch) (B : zd_B) : List (Nat × zd_S) := [(0, oc_aload 0 1), (1, oc_iload 1 2), (2, oc_iload 2 3), (3, oc_iload 3 4), (4, oc_callvh l B zh_La_multiply 0 m_De_multiply 3 4), (7, oc_goto 18), (10, oc_astore 4 12), (12, oc_ci (1) 13), (13, oc_iret .int), (14, oc_astore 4 16), (16, oc_ci (2) 17), (17, oc_iret .int), (18, oc_ci (0) 19), (19, oc_iret .int)]
set_option maxRecDepth 20000 in
theorem ok_La_multiply {l : Launch} {B : zd_B} (hG : zd_G B) (hl : l.stackTraces = false) (hN : zd_N B) : ∀ q ∈ cd_La_multiply l B, zd_ok l B m_La_multiply q.1 q.2 := by
  unfold cd_La_multiply
  refine zd_ac (ok_aload_n (l := l) (B := B) (y := m_La_multiply) (pc := 0) (k := 0) rfl (zd_dr dc_La_multiply 0 rfl)) ?_
  refine zd_ac (ok_iload_n (l := l) (B := B) (y := m_La_multiply) (pc := 1) (k := 1) rfl (zd_dr dc_La_multiply 1 rfl)) ?_
  refine zd_ac (ok_iload_n (l := l) (B := B) (y := m_La_multiply) (pc := 2) (k := 2) rfl (zd_dr dc_La_multiply 2 rfl)) ?_
  refine zd_ac (ok_iload_n (l := l) (B := B) (y := m_La_multiply) (pc := 3) (k := 3) rfl (zd_dr dc_La_multiply 3 rfl)) ?_
  refine zd_ac (ok_callvh (l := l) (B := B) (y := m_La_multiply) (pc := 4) hG hN (ci := 0) rfl cf_La_multiply_De_multiply rfl rfl (by decide) (List.mem_of_getElem? (i := 575) (by decide +kernel)) (List.mem_of_getElem? (i := 576) (by decide +kernel)) (List.mem_of_getElem? (i := 577) (by decide +kernel)) (zd_dr dc_La_multiply 4 rfl)) ?_
  refine zd_ac (ok_goto (l := l) (B := B) (y := m_La_multiply) (pc := 7) (zd_dr dc_La_multiply 5 rfl) (by decide)) ?_
  refine zd_ac (ok_astore (l := l) (B := B) (y := m_La_multiply) (pc := 10) (zd_dr dc_La_multiply 6 rfl) (by decide)) ?_
  refine zd_ac (ok_iconst (l := l) (B := B) (y := m_La_multiply) (pc := 12) (n := (1)) (zd_dr dc_La_multiply 7 rfl) rfl) ?_
  refine zd_ac (ok_iret (l := l) (B := B) (y := m_La_multiply) (pc := 13) rfl (zd_dr dc_La_multiply 8 rfl)) ?_
  refine zd_ac (ok_astore (l := l) (B := B) (y := m_La_multiply) (pc := 14) (zd_dr dc_La_multiply 9 rfl) (by decide)) ?_
  refine zd_ac (ok_iconst (l := l) (B := B) (y := m_La_multiply) (pc := 16) (n := (2)) (zd_dr dc_La_multiply 10 rfl) rfl) ?_
  refine zd_ac (ok_iret (l := l) (B := B) (y := m_La_multiply) (pc := 17) rfl (zd_dr dc_La_multiply 11 rfl)) ?_
  refine zd_ac (ok_iconst (l := l) (B := B) (y := m_La_multiply) (pc := 18) (n := (0)) (zd_dr dc_La_multiply 12 rfl) rfl) ?_
  refine zd_ac (ok_iret (l := l) (B := B) (y := m_La_multiply) (pc := 19) rfl (zd_dr dc_La_multiply 13 rfl)) ?_
  exact zd_an
def zh_La_divide : List (Nat × Nat × Nat × Nat) := [(0, 11, 14, 13), (0, 11, 18, 17)]
def dl_La_divide : List (Nat × Instr × Nat) := [(0, .aload_n 0, 1), (1, .iload_n 1, 1), (2, .iload_n 2, 1), (3, .iload_n 3, 1), (4, .iload 4, 2), (6, .iload 5, 2), (8, .invokevirtual 31, 3), (11, .goto (11), 3), (14, .astore 6, 2), (16, .iconst (1), 1), (17, .ireturn, 1), (18, .astore 6, 2), (20, .iconst (2), 1), (21, .ireturn, 1), (22, .iconst (0), 1), (23, .ireturn, 1)]
theorem dc_La_divide : ∀ q ∈ dl_La_divide, decode (zd_yb m_La_divide) q.1 = .ok q.2 := by decide +kernel
def cd_La_divide (l : Launch) (B : zd_B) : List (Nat × zd_S) := [(0, oc_aload 0 1), (1, oc_iload 1 2), (2, oc_iload 2 3), (3, oc_iload 3 4), (4, oc_iload 4 6), (6, oc_iload 5 8), (8, oc_callvh l B zh_La_divide 0 m_De_divide 5 8), (11, oc_goto 22), (14, oc_astore 6 16), (16, oc_ci (1) 17), (17, oc_iret .int), (18, oc_astore 6 20), (20, oc_ci (2) 21), (21, oc_iret .int), (22, oc_ci (0) 23), (23, oc_iret .int)]
set_option maxRecDepth 20000 in
theorem ok_La_divide {l : Launch} {B : zd_B} (hG : zd_G B) (hl : l.stackTraces = false) (hN : zd_N B) : ∀ q ∈ cd_La_divide l B, zd_ok l B m_La_divide q.1 q.2 := by
  unfold cd_La_divide
  refine zd_ac (ok_aload_n (l := l) (B := B) (y := m_La_divide) (pc := 0) (k := 0) rfl (zd_dr dc_La_divide 0 rfl)) ?_
  refine zd_ac (ok_iload_n (l := l) (B := B) (y := m_La_divide) (pc := 1) (k := 1) rfl (zd_dr dc_La_divide 1 rfl)) ?_
  refine zd_ac (ok_iload_n (l := l) (B := B) (y := m_La_divide) (pc := 2) (k := 2) rfl (zd_dr dc_La_divide 2 rfl)) ?_
  refine zd_ac (ok_iload_n (l := l) (B := B) (y := m_La_divide) (pc := 3) (k := 3) rfl (zd_dr dc_La_divide 3 rfl)) ?_
  refine zd_ac (ok_iload (l := l) (B := B) (y := m_La_divide) (pc := 4) (zd_dr dc_La_divide 4 rfl)) ?_
  refine zd_ac (ok_iload (l := l) (B := B) (y := m_La_divide) (pc := 6) (zd_dr dc_La_divide 5 rfl)) ?_
  refine zd_ac (ok_callvh (l := l) (B := B) (y := m_La_divide) (pc := 8) hG hN (ci := 0) rfl cf_La_divide_De_divide rfl rfl (by decide) (List.mem_of_getElem? (i := 586) (by decide +kernel)) (List.mem_of_getElem? (i := 587) (by decide +kernel)) (List.mem_of_getElem? (i := 588) (by decide +kernel)) (zd_dr dc_La_divide 6 rfl)) ?_
  refine zd_ac (ok_goto (l := l) (B := B) (y := m_La_divide) (pc := 11) (zd_dr dc_La_divide 7 rfl) (by decide)) ?_
  refine zd_ac (ok_astore (l := l) (B := B) (y := m_La_divide) (pc := 14) (zd_dr dc_La_divide 8 rfl) (by decide)) ?_
  refine zd_ac (ok_iconst (l := l) (B := B) (y := m_La_divide) (pc := 16) (n := (1)) (zd_dr dc_La_divide 9 rfl) rfl) ?_
  refine zd_ac (ok_iret (l := l) (B := B) (y := m_La_divide) (pc := 17) rfl (zd_dr dc_La_divide 10 rfl)) ?_
  refine zd_ac (ok_astore (l := l) (B := B) (y := m_La_divide) (pc := 18) (zd_dr dc_La_divide 11 rfl) (by decide)) ?_
  refine zd_ac (ok_iconst (l := l) (B := B) (y := m_La_divide) (pc := 20) (n := (2)) (zd_dr dc_La_divide 12 rfl) rfl) ?_
  refine zd_ac (ok_iret (l := l) (B := B) (y := m_La_divide) (pc := 21) rfl (zd_dr dc_La_divide 13 rfl)) ?_
  refine zd_ac (ok_iconst (l := l) (B := B) (y := m_La_divide) (pc := 22) (n := (0)) (zd_dr dc_La_divide 14 rfl) rfl) ?_
  refine zd_ac (ok_iret (l := l) (B := B) (y := m_La_divide) (pc := 23) rfl (zd_dr dc_La_divide 15 rfl)) ?_
  exact zd_an
def zh_La_quotient : List (Nat × Nat × Nat × Nat) := [(0, 11, 14, 13), (0, 11, 18, 17)]
def dl_La_quotient : List (Nat × Instr × Nat) := [(0, .aload_n 0, 1), (1, .iload_n 1, 1), (2, .iload_n 2, 1), (3, .iload_n 3, 1), (4, .iload 4, 2), (6, .iload 5, 2), (8, .invokevirtual 35, 3), (11, .goto (11), 3), (14, .astore 6, 2), (16, .iconst (1), 1), (17, .ireturn, 1), (18, .astore 6, 2), (20, .iconst (2), 1), (21, .ireturn, 1), (22, .iconst (0), 1), (23, .ireturn, 1)]
theorem dc_La_quotient : ∀ q ∈ dl_La_quotient, decode (zd_yb m_La_quotient) q.1 = .ok q.2 := by decide +kernel
def cd_La_quotient (l : Launch) (B : zd_B) : List (Nat × zd_S) := [(0, oc_aload 0 1), (1, oc_iload 1 2), (2, oc_iload 2 3), (3, oc_iload 3 4), (4, oc_iload 4 6), (6, oc_iload 5 8), (8, oc_callvh l B zh_La_quotient 0 m_De_quotient 5 8), (11, oc_goto 22), (14, oc_astore 6 16), (16, oc_ci (1) 17), (17, oc_iret .int), (18, oc_astore 6 20), (20, oc_ci (2) 21), (21, oc_iret .int), (22, oc_ci (0) 23), (23, oc_iret .int)]
set_option maxRecDepth 20000 in
theorem ok_La_quotient {l : Launch} {B : zd_B} (hG : zd_G B) (hl : l.stackTraces = false) (hN : zd_N B) : ∀ q ∈ cd_La_quotient l B, zd_ok l B m_La_quotient q.1 q.2 := by
  unfold cd_La_quotient
  refine zd_ac (ok_aload_n (l := l) (B := B) (y := m_La_quotient) (pc := 0) (k := 0) rfl (zd_dr dc_La_quotient 0 rfl)) ?_
  refine zd_ac (ok_iload_n (l := l) (B := B) (y := m_La_quotient) (pc := 1) (k := 1) rfl (zd_dr dc_La_quotient 1 rfl)) ?_
  refine zd_ac (ok_iload_n (l := l) (B := B) (y := m_La_quotient) (pc := 2) (k := 2) rfl (zd_dr dc_La_quotient 2 rfl)) ?_
  refine zd_ac (ok_iload_n (l := l) (B := B) (y := m_La_quotient) (pc := 3) (k := 3) rfl (zd_dr dc_La_quotient 3 rfl)) ?_
  refine zd_ac (ok_iload (l := l) (B := B) (y := m_La_quotient) (pc := 4) (zd_dr dc_La_quotient 4 rfl)) ?_
  refine zd_ac (ok_iload (l := l) (B := B) (y := m_La_quotient) (pc := 6) (zd_dr dc_La_quotient 5 rfl)) ?_
  refine zd_ac (ok_callvh (l := l) (B := B) (y := m_La_quotient) (pc := 8) hG hN (ci := 0) rfl cf_La_quotient_De_quotient rfl rfl (by decide) (List.mem_of_getElem? (i := 667) (by decide +kernel)) (List.mem_of_getElem? (i := 668) (by decide +kernel)) (List.mem_of_getElem? (i := 669) (by decide +kernel)) (zd_dr dc_La_quotient 6 rfl)) ?_
  refine zd_ac (ok_goto (l := l) (B := B) (y := m_La_quotient) (pc := 11) (zd_dr dc_La_quotient 7 rfl) (by decide)) ?_
  refine zd_ac (ok_astore (l := l) (B := B) (y := m_La_quotient) (pc := 14) (zd_dr dc_La_quotient 8 rfl) (by decide)) ?_
  refine zd_ac (ok_iconst (l := l) (B := B) (y := m_La_quotient) (pc := 16) (n := (1)) (zd_dr dc_La_quotient 9 rfl) rfl) ?_
  refine zd_ac (ok_iret (l := l) (B := B) (y := m_La_quotient) (pc := 17) rfl (zd_dr dc_La_quotient 10 rfl)) ?_
  refine zd_ac (ok_astore (l := l) (B := B) (y := m_La_quotient) (pc := 18) (zd_dr dc_La_quotient 11 rfl) (by decide)) ?_
  refine zd_ac (ok_iconst (l := l) (B := B) (y := m_La_quotient) (pc := 20) (n := (2)) (zd_dr dc_La_quotient 12 rfl) rfl) ?_
  refine zd_ac (ok_iret (l := l) (B := B) (y := m_La_quotient) (pc := 21) rfl (zd_dr dc_La_quotient 13 rfl)) ?_
  refine zd_ac (ok_iconst (l := l) (B := B) (y := m_La_quotient) (pc := 22) (n := (0)) (zd_dr dc_La_quotient 14 rfl) rfl) ?_
  refine zd_ac (ok_iret (l := l) (B := B) (y := m_La_quotient) (pc := 23) rfl (zd_dr dc_La_quotient 15 rfl)) ?_
  exact zd_an
def zh_La_remainder : List (Nat × Nat × Nat × Nat) := [(0, 7, 10, 13), (0, 7, 14, 17)]
def dl_La_remainder : List (Nat × Instr × Nat) := [(0, .aload_n 0, 1), (1, .iload_n 1, 1), (2, .iload_n 2, 1), (3, .iload_n 3, 1), (4, .invokevirtual 38, 3), (7, .goto (11), 3), (10, .astore 4, 2), (12, .iconst (1), 1), (13, .ireturn, 1), (14, .astore 4, 2), (16, .iconst (2), 1), (17, .ireturn, 1), (18, .iconst (0), 1), (19, .ireturn, 1)]
theorem dc_La_remainder : ∀ q ∈ dl_La_remainder, decode (zd_yb m_La_remainder) q.1 = .ok q.2 := by decide +kernel
def cd_La_remainder (l : Launch) (B : zd_B) : List (Nat × zd_S) := [(0, oc_aload 0 1), (1, oc_iload 1 2), (2, oc_iload 2 3), (3, oc_iload 3 4), (4, oc_callvh l B zh_La_remainder 0 m_De_remainder 3 4), (7, oc_goto 18), (10, oc_astore 4 12), (12, oc_ci (1) 13), (13, oc_iret .int), (14, oc_astore 4 16), (16, oc_ci (2) 17), (17, oc_iret .int), (18, oc_ci (0) 19), (19, oc_iret .int)]
set_option maxRecDepth 20000 in
theorem ok_La_remainder {l : Launch} {B : zd_B} (hG : zd_G B) (hl : l.stackTraces = false) (hN : zd_N B) : ∀ q ∈ cd_La_remainder l B, zd_ok l B m_La_remainder q.1 q.2 := by
  unfold cd_La_remainder
  refine zd_ac (ok_aload_n (l := l) (B := B) (y := m_La_remainder) (pc := 0) (k := 0) rfl (zd_dr dc_La_remainder 0 rfl)) ?_
  refine zd_ac (ok_iload_n (l := l) (B := B) (y := m_La_remainder) (pc := 1) (k := 1) rfl (zd_dr dc_La_remainder 1 rfl)) ?_
  refine zd_ac (ok_iload_n (l := l) (B := B) (y := m_La_remainder) (pc := 2) (k := 2) rfl (zd_dr dc_La_remainder 2 rfl)) ?_
  refine zd_ac (ok_iload_n (l := l) (B := B) (y := m_La_remainder) (pc := 3) (k := 3) rfl (zd_dr dc_La_remainder 3 rfl)) ?_
  refine zd_ac (ok_callvh (l := l) (B := B) (y := m_La_remainder) (pc := 4) hG hN (ci := 0) rfl cf_La_remainder_De_remainder rfl rfl (by decide) (List.mem_of_getElem? (i := 693) (by decide +kernel)) (List.mem_of_getElem? (i := 694) (by decide +kernel)) (List.mem_of_getElem? (i := 695) (by decide +kernel)) (zd_dr dc_La_remainder 4 rfl)) ?_
  refine zd_ac (ok_goto (l := l) (B := B) (y := m_La_remainder) (pc := 7) (zd_dr dc_La_remainder 5 rfl) (by decide)) ?_
  refine zd_ac (ok_astore (l := l) (B := B) (y := m_La_remainder) (pc := 10) (zd_dr dc_La_remainder 6 rfl) (by decide)) ?_
  refine zd_ac (ok_iconst (l := l) (B := B) (y := m_La_remainder) (pc := 12) (n := (1)) (zd_dr dc_La_remainder 7 rfl) rfl) ?_
  refine zd_ac (ok_iret (l := l) (B := B) (y := m_La_remainder) (pc := 13) rfl (zd_dr dc_La_remainder 8 rfl)) ?_
  refine zd_ac (ok_astore (l := l) (B := B) (y := m_La_remainder) (pc := 14) (zd_dr dc_La_remainder 9 rfl) (by decide)) ?_
  refine zd_ac (ok_iconst (l := l) (B := B) (y := m_La_remainder) (pc := 16) (n := (2)) (zd_dr dc_La_remainder 10 rfl) rfl) ?_
  refine zd_ac (ok_iret (l := l) (B := B) (y := m_La_remainder) (pc := 17) rfl (zd_dr dc_La_remainder 11 rfl)) ?_
  refine zd_ac (ok_iconst (l := l) (B := B) (y := m_La_remainder) (pc := 18) (n := (0)) (zd_dr dc_La_remainder 12 rfl) rfl) ?_
  refine zd_ac (ok_iret (l := l) (B := B) (y := m_La_remainder) (pc := 19) rfl (zd_dr dc_La_remainder 13 rfl)) ?_
  exact zd_an
def zh_La_power : List (Nat × Nat × Nat × Nat) := [(0, 7, 10, 13), (0, 7, 14, 17)]
def dl_La_power : List (Nat × Instr × Nat) := [(0, .aload_n 0, 1), (1, .iload_n 1, 1), (2, .iload_n 2, 1), (3, .iload_n 3, 1), (4, .invokevirtual 41, 3), (7, .goto (11), 3), (10, .astore 4, 2), (12, .iconst (1), 1), (13, .ireturn, 1), (14, .astore 4, 2), (16, .iconst (2), 1), (17, .ireturn, 1), (18, .iconst (0), 1), (19, .ireturn, 1)]
theorem dc_La_power : ∀ q ∈ dl_La_power, decode (zd_yb m_La_power) q.1 = .ok q.2 := by decide +kernel
def cd_La_power (l : Launch) (B : zd_B) : List (Nat × zd_S) := [(0, oc_aload 0 1), (1, oc_iload 1 2), (2, oc_iload 2 3), (3, oc_iload 3 4), (4, oc_callvh l B zh_La_power 0 m_De_power 3 4), (7, oc_goto 18), (10, oc_astore 4 12), (12, oc_ci (1) 13), (13, oc_iret .int), (14, oc_astore 4 16), (16, oc_ci (2) 17), (17, oc_iret .int), (18, oc_ci (0) 19), (19, oc_iret .int)]
set_option maxRecDepth 20000 in
theorem ok_La_power {l : Launch} {B : zd_B} (hG : zd_G B) (hl : l.stackTraces = false) (hN : zd_N B) : ∀ q ∈ cd_La_power l B, zd_ok l B m_La_power q.1 q.2 := by
  unfold cd_La_power
  refine zd_ac (ok_aload_n (l := l) (B := B) (y := m_La_power) (pc := 0) (k := 0) rfl (zd_dr dc_La_power 0 rfl)) ?_
  refine zd_ac (ok_iload_n (l := l) (B := B) (y := m_La_power) (pc := 1) (k := 1) rfl (zd_dr dc_La_power 1 rfl)) ?_
  refine zd_ac (ok_iload_n (l := l) (B := B) (y := m_La_power) (pc := 2) (k := 2) rfl (zd_dr dc_La_power 2 rfl)) ?_
  refine zd_ac (ok_iload_n (l := l) (B := B) (y := m_La_power) (pc := 3) (k := 3) rfl (zd_dr dc_La_power 3 rfl)) ?_
  refine zd_ac (ok_callvh (l := l) (B := B) (y := m_La_power) (pc := 4) hG hN (ci := 0) rfl cf_La_power_De_power rfl rfl (by decide) (List.mem_of_getElem? (i := 705) (by decide +kernel)) (List.mem_of_getElem? (i := 706) (by decide +kernel)) (List.mem_of_getElem? (i := 707) (by decide +kernel)) (zd_dr dc_La_power 4 rfl)) ?_
  refine zd_ac (ok_goto (l := l) (B := B) (y := m_La_power) (pc := 7) (zd_dr dc_La_power 5 rfl) (by decide)) ?_
  refine zd_ac (ok_astore (l := l) (B := B) (y := m_La_power) (pc := 10) (zd_dr dc_La_power 6 rfl) (by decide)) ?_
  refine zd_ac (ok_iconst (l := l) (B := B) (y := m_La_power) (pc := 12) (n := (1)) (zd_dr dc_La_power 7 rfl) rfl) ?_
  refine zd_ac (ok_iret (l := l) (B := B) (y := m_La_power) (pc := 13) rfl (zd_dr dc_La_power 8 rfl)) ?_
  refine zd_ac (ok_astore (l := l) (B := B) (y := m_La_power) (pc := 14) (zd_dr dc_La_power 9 rfl) (by decide)) ?_
  refine zd_ac (ok_iconst (l := l) (B := B) (y := m_La_power) (pc := 16) (n := (2)) (zd_dr dc_La_power 10 rfl) rfl) ?_
  refine zd_ac (ok_iret (l := l) (B := B) (y := m_La_power) (pc := 17) rfl (zd_dr dc_La_power 11 rfl)) ?_
  refine zd_ac (ok_iconst (l := l) (B := B) (y := m_La_power) (pc := 18) (n := (0)) (zd_dr dc_La_power 12 rfl) rfl) ?_
  refine zd_ac (ok_iret (l := l) (B := B) (y := m_La_power) (pc := 19) rfl (zd_dr dc_La_power 13 rfl)) ?_
  exact zd_an
def zh_La_root : List (Nat × Nat × Nat × Nat) := [(0, 9, 12, 13), (0, 9, 16, 17)]
def dl_La_root : List (Nat × Instr × Nat) := [(0, .aload_n 0, 1), (1, .iload_n 1, 1), (2, .iload_n 2, 1), (3, .iload_n 3, 1), (4, .iload 4, 2), (6, .invokevirtual 44, 3), (9, .goto (11), 3), (12, .astore 5, 2), (14, .iconst (1), 1), (15, .ireturn, 1), (16, .astore 5, 2), (18, .iconst (2), 1), (19, .ireturn, 1), (20, .iconst (0), 1), (21, .ireturn, 1)]
theorem dc_La_root : ∀ q ∈ dl_La_root, decode (zd_yb m_La_root) q.1 = .ok q.2 := by decide +kernel
def cd_La_root (l : Launch) (B : zd_B) : List (Nat × zd_S) := [(0, oc_aload 0 1), (1, oc_iload 1 2), (2, oc_iload 2 3), (3, oc_iload 3 4), (4, oc_iload 4 6), (6, oc_callvh l B zh_La_root 0 m_De_root 4 6), (9, oc_goto 20), (12, oc_astore 5 14), (14, oc_ci (1) 15), (15, oc_iret .int), (16, oc_astore 5 18), (18, oc_ci (2) 19), (19, oc_iret .int), (20, oc_ci (0) 21), (21, oc_iret .int)]
set_option maxRecDepth 20000 in
theorem ok_La_root {l : Launch} {B : zd_B} (hG : zd_G B) (hl : l.stackTraces = false) (hN : zd_N B) : ∀ q ∈ cd_La_root l B, zd_ok l B m_La_root q.1 q.2 := by
  unfold cd_La_root
  refine zd_ac (ok_aload_n (l := l) (B := B) (y := m_La_root) (pc := 0) (k := 0) rfl (zd_dr dc_La_root 0 rfl)) ?_
  refine zd_ac (ok_iload_n (l := l) (B := B) (y := m_La_root) (pc := 1) (k := 1) rfl (zd_dr dc_La_root 1 rfl)) ?_
  refine zd_ac (ok_iload_n (l := l) (B := B) (y := m_La_root) (pc := 2) (k := 2) rfl (zd_dr dc_La_root 2 rfl)) ?_
  refine zd_ac (ok_iload_n (l := l) (B := B) (y := m_La_root) (pc := 3) (k := 3) rfl (zd_dr dc_La_root 3 rfl)) ?_
  refine zd_ac (ok_iload (l := l) (B := B) (y := m_La_root) (pc := 4) (zd_dr dc_La_root 4 rfl)) ?_
  refine zd_ac (ok_callvh (l := l) (B := B) (y := m_La_root) (pc := 6) hG hN (ci := 0) rfl cf_La_root_De_root rfl rfl (by decide) (List.mem_of_getElem? (i := 717) (by decide +kernel)) (List.mem_of_getElem? (i := 718) (by decide +kernel)) (List.mem_of_getElem? (i := 719) (by decide +kernel)) (zd_dr dc_La_root 5 rfl)) ?_
  refine zd_ac (ok_goto (l := l) (B := B) (y := m_La_root) (pc := 9) (zd_dr dc_La_root 6 rfl) (by decide)) ?_
  refine zd_ac (ok_astore (l := l) (B := B) (y := m_La_root) (pc := 12) (zd_dr dc_La_root 7 rfl) (by decide)) ?_
  refine zd_ac (ok_iconst (l := l) (B := B) (y := m_La_root) (pc := 14) (n := (1)) (zd_dr dc_La_root 8 rfl) rfl) ?_
  refine zd_ac (ok_iret (l := l) (B := B) (y := m_La_root) (pc := 15) rfl (zd_dr dc_La_root 9 rfl)) ?_
  refine zd_ac (ok_astore (l := l) (B := B) (y := m_La_root) (pc := 16) (zd_dr dc_La_root 10 rfl) (by decide)) ?_
  refine zd_ac (ok_iconst (l := l) (B := B) (y := m_La_root) (pc := 18) (n := (2)) (zd_dr dc_La_root 11 rfl) rfl) ?_
  refine zd_ac (ok_iret (l := l) (B := B) (y := m_La_root) (pc := 19) rfl (zd_dr dc_La_root 12 rfl)) ?_
  refine zd_ac (ok_iconst (l := l) (B := B) (y := m_La_root) (pc := 20) (n := (0)) (zd_dr dc_La_root 13 rfl) rfl) ?_
  refine zd_ac (ok_iret (l := l) (B := B) (y := m_La_root) (pc := 21) rfl (zd_dr dc_La_root 14 rfl)) ?_
  exact zd_an
def zh_La_toScale : List (Nat × Nat × Nat × Nat) := [(0, 9, 12, 13), (0, 9, 16, 17)]
def dl_La_toScale : List (Nat × Instr × Nat) := [(0, .aload_n 0, 1), (1, .iload_n 1, 1), (2, .iload_n 2, 1), (3, .iload_n 3, 1), (4, .iload 4, 2), (6, .invokevirtual 48, 3), (9, .goto (11), 3), (12, .astore 5, 2), (14, .iconst (1), 1), (15, .ireturn, 1), (16, .astore 5, 2), (18, .iconst (2), 1), (19, .ireturn, 1), (20, .iconst (0), 1), (21, .ireturn, 1)]
theorem dc_La_toScale : ∀ q ∈ dl_La_toScale, decode (zd_yb m_La_toScale) q.1 = .ok q.2 := by decide +kernel
def cd_La_toScale (l : Launch) (B : zd_B) : List (Nat × zd_S) := [(0, oc_aload 0 1), (1, oc_iload 1 2), (2, oc_iload 2 3), (3, oc_iload 3 4), (4, oc_iload 4 6), (6, oc_callvh l B zh_La_toScale 0 m_De_toScale 4 6), (9, oc_goto 20), (12, oc_astore 5 14), (14, oc_ci (1) 15), (15, oc_iret .int), (16, oc_astore 5 18), (18, oc_ci (2) 19), (19, oc_iret .int), (20, oc_ci (0) 21), (21, oc_iret .int)]
set_option maxRecDepth 20000 in
theorem ok_La_toScale {l : Launch} {B : zd_B} (hG : zd_G B) (hl : l.stackTraces = false) (hN : zd_N B) : ∀ q ∈ cd_La_toScale l B, zd_ok l B m_La_toScale q.1 q.2 := by
  unfold cd_La_toScale
  refine zd_ac (ok_aload_n (l := l) (B := B) (y := m_La_toScale) (pc := 0) (k := 0) rfl (zd_dr dc_La_toScale 0 rfl)) ?_
  refine zd_ac (ok_iload_n (l := l) (B := B) (y := m_La_toScale) (pc := 1) (k := 1) rfl (zd_dr dc_La_toScale 1 rfl)) ?_
  refine zd_ac (ok_iload_n (l := l) (B := B) (y := m_La_toScale) (pc := 2) (k := 2) rfl (zd_dr dc_La_toScale 2 rfl)) ?_
  refine zd_ac (ok_iload_n (l := l) (B := B) (y := m_La_toScale) (pc := 3) (k := 3) rfl (zd_dr dc_La_toScale 3 rfl)) ?_
  refine zd_ac (ok_iload (l := l) (B := B) (y := m_La_toScale) (pc := 4) (zd_dr dc_La_toScale 4 rfl)) ?_
  refine zd_ac (ok_callvh (l := l) (B := B) (y := m_La_toScale) (pc := 6) hG hN (ci := 0) rfl cf_La_toScale_De_toScale rfl rfl (by decide) (List.mem_of_getElem? (i := 747) (by decide +kernel)) (List.mem_of_getElem? (i := 748) (by decide +kernel)) (List.mem_of_getElem? (i := 749) (by decide +kernel)) (zd_dr dc_La_toScale 5 rfl)) ?_
  refine zd_ac (ok_goto (l := l) (B := B) (y := m_La_toScale) (pc := 9) (zd_dr dc_La_toScale 6 rfl) (by decide)) ?_
  refine zd_ac (ok_astore (l := l) (B := B) (y := m_La_toScale) (pc := 12) (zd_dr dc_La_toScale 7 rfl) (by decide)) ?_
  refine zd_ac (ok_iconst (l := l) (B := B) (y := m_La_toScale) (pc := 14) (n := (1)) (zd_dr dc_La_toScale 8 rfl) rfl) ?_
  refine zd_ac (ok_iret (l := l) (B := B) (y := m_La_toScale) (pc := 15) rfl (zd_dr dc_La_toScale 9 rfl)) ?_
  refine zd_ac (ok_astore (l := l) (B := B) (y := m_La_toScale) (pc := 16) (zd_dr dc_La_toScale 10 rfl) (by decide)) ?_
  refine zd_ac (ok_iconst (l := l) (B := B) (y := m_La_toScale) (pc := 18) (n := (2)) (zd_dr dc_La_toScale 11 rfl) rfl) ?_
  refine zd_ac (ok_iret (l := l) (B := B) (y := m_La_toScale) (pc := 19) rfl (zd_dr dc_La_toScale 12 rfl)) ?_
  refine zd_ac (ok_iconst (l := l) (B := B) (y := m_La_toScale) (pc := 20) (n := (0)) (zd_dr dc_La_toScale 13 rfl) rfl) ?_
  refine zd_ac (ok_iret (l := l) (B := B) (y := m_La_toScale) (pc := 21) rfl (zd_dr dc_La_toScale 14 rfl)) ?_
  exact zd_an
def zh_La_round : List (Nat × Nat × Nat × Nat) := [(0, 9, 12, 13), (0, 9, 16, 17)]
def dl_La_round : List (Nat × Instr × Nat) := [(0, .aload_n 0, 1), (1, .iload_n 1, 1), (2, .iload_n 2, 1), (3, .iload_n 3, 1), (4, .iload 4, 2), (6, .invokevirtual 51, 3), (9, .goto (11), 3), (12, .astore 5, 2), (14, .iconst (1), 1), (15, .ireturn, 1), (16, .astore 5, 2), (18, .iconst (2), 1), (19, .ireturn, 1), (20, .iconst (0), 1), (21, .ireturn, 1)]
theorem dc_La_round : ∀ q ∈ dl_La_round, decode (zd_yb m_La_round) q.1 = .ok q.2 := by decide +kernel
def cd_La_round (l : Launch) (B : zd_B) : List (Nat × zd_S) := [(0, oc_aload 0 1), (1, oc_iload 1 2), (2, oc_iload 2 3), (3, oc_iload 3 4), (4, oc_iload 4 6), (6, oc_callvh l B zh_La_round 0 m_De_round 4 6), (9, oc_goto 20), (12, oc_astore 5 14), (14, oc_ci (1) 15), (15, oc_iret .int), (16, oc_astore 5 18), (18, oc_ci (2) 19), (19, oc_iret .int), (20, oc_ci (0) 21), (21, oc_iret .int)]
set_option maxRecDepth 20000 in
theorem ok_La_round {l : Launch} {B : zd_B} (hG : zd_G B) (hl : l.stackTraces = false) (hN : zd_N B) : ∀ q ∈ cd_La_round l B, zd_ok l B m_La_round q.1 q.2 := by
  unfold cd_La_round
  refine zd_ac (ok_aload_n (l := l) (B := B) (y := m_La_round) (pc := 0) (k := 0) rfl (zd_dr dc_La_round 0 rfl)) ?_
  refine zd_ac (ok_iload_n (l := l) (B := B) (y := m_La_round) (pc := 1) (k := 1) rfl (zd_dr dc_La_round 1 rfl)) ?_
  refine zd_ac (ok_iload_n (l := l) (B := B) (y := m_La_round) (pc := 2) (k := 2) rfl (zd_dr dc_La_round 2 rfl)) ?_
  refine zd_ac (ok_iload_n (l := l) (B := B) (y := m_La_round) (pc := 3) (k := 3) rfl (zd_dr dc_La_round 3 rfl)) ?_
  refine zd_ac (ok_iload (l := l) (B := B) (y := m_La_round) (pc := 4) (zd_dr dc_La_round 4 rfl)) ?_
  refine zd_ac (ok_callvh (l := l) (B := B) (y := m_La_round) (pc := 6) hG hN (ci := 0) rfl cf_La_round_De_round rfl rfl (by decide) (List.mem_of_getElem? (i := 754) (by decide +kernel)) (List.mem_of_getElem? (i := 755) (by decide +kernel)) (List.mem_of_getElem? (i := 756) (by decide +kernel)) (zd_dr dc_La_round 5 rfl)) ?_
  refine zd_ac (ok_goto (l := l) (B := B) (y := m_La_round) (pc := 9) (zd_dr dc_La_round 6 rfl) (by decide)) ?_
  refine zd_ac (ok_astore (l := l) (B := B) (y := m_La_round) (pc := 12) (zd_dr dc_La_round 7 rfl) (by decide)) ?_
  refine zd_ac (ok_iconst (l := l) (B := B) (y := m_La_round) (pc := 14) (n := (1)) (zd_dr dc_La_round 8 rfl) rfl) ?_
  refine zd_ac (ok_iret (l := l) (B := B) (y := m_La_round) (pc := 15) rfl (zd_dr dc_La_round 9 rfl)) ?_
  refine zd_ac (ok_astore (l := l) (B := B) (y := m_La_round) (pc := 16) (zd_dr dc_La_round 10 rfl) (by decide)) ?_
  refine zd_ac (ok_iconst (l := l) (B := B) (y := m_La_round) (pc := 18) (n := (2)) (zd_dr dc_La_round 11 rfl) rfl) ?_
  refine zd_ac (ok_iret (l := l) (B := B) (y := m_La_round) (pc := 19) rfl (zd_dr dc_La_round 12 rfl)) ?_
  refine zd_ac (ok_iconst (l := l) (B := B) (y := m_La_round) (pc := 20) (n := (0)) (zd_dr dc_La_round 13 rfl) rfl) ?_
  refine zd_ac (ok_iret (l := l) (B := B) (y := m_La_round) (pc := 21) rfl (zd_dr dc_La_round 14 rfl)) ?_
  exact zd_an
def zh_La_strip : List (Nat × Nat × Nat × Nat) := [(0, 6, 9, 13), (0, 6, 12, 17)]
def dl_La_strip : List (Nat × Instr × Nat) := [(0, .aload_n 0, 1), (1, .iload_n 1, 1), (2, .iload_n 2, 1), (3, .invokevirtual 54, 3), (6, .goto (9), 3), (9, .astore_n 3, 1), (10, .iconst (1), 1), (11, .ireturn, 1), (12, .astore_n 3, 1), (13, .iconst (2), 1), (14, .ireturn, 1), (15, .iconst (0), 1), (16, .ireturn, 1)]
theorem dc_La_strip : ∀ q ∈ dl_La_strip, decode (zd_yb m_La_strip) q.1 = .ok q.2 := by decide +kernel
def cd_La_strip (l : Launch) (B : zd_B) : List (Nat × zd_S) := [(0, oc_aload 0 1), (1, oc_iload 1 2), (2, oc_iload 2 3), (3, oc_callvh l B zh_La_strip 0 m_De_strip 2 3), (6, oc_goto 15), (9, oc_astore 3 10), (10, oc_ci (1) 11), (11, oc_iret .int), (12, oc_astore 3 13), (13, oc_ci (2) 14), (14, oc_iret .int), (15, oc_ci (0) 16), (16, oc_iret .int)]
set_option maxRecDepth 20000 in
theorem ok_La_strip {l : Launch} {B : zd_B} (hG : zd_G B) (hl : l.stackTraces = false) (hN : zd_N B) : ∀ q ∈ cd_La_strip l B, zd_ok l B m_La_strip q.1 q.2 := by
  unfold cd_La_strip
  refine zd_ac (ok_aload_n (l := l) (B := B) (y := m_La_strip) (pc := 0) (k := 0) rfl (zd_dr dc_La_strip 0 rfl)) ?_
  refine zd_ac (ok_iload_n (l := l) (B := B) (y := m_La_strip) (pc := 1) (k := 1) rfl (zd_dr dc_La_strip 1 rfl)) ?_
  refine zd_ac (ok_iload_n (l := l) (B := B) (y := m_La_strip) (pc := 2) (k := 2) rfl (zd_dr dc_La_strip 2 rfl)) ?_
  refine zd_ac (ok_callvh (l := l) (B := B) (y := m_La_strip) (pc := 3) hG hN (ci := 0) rfl cf_La_strip_De_strip rfl rfl (by decide) (List.mem_of_getElem? (i := 761) (by decide +kernel)) (List.mem_of_getElem? (i := 762) (by decide +kernel)) (List.mem_of_getElem? (i := 763) (by decide +kernel)) (zd_dr dc_La_strip 3 rfl)) ?_
  refine zd_ac (ok_goto (l := l) (B := B) (y := m_La_strip) (pc := 6) (zd_dr dc_La_strip 4 rfl) (by decide)) ?_
  refine zd_ac (ok_astore_n (l := l) (B := B) (y := m_La_strip) (pc := 9) (k := 3) rfl (zd_dr dc_La_strip 5 rfl) (by decide)) ?_
  refine zd_ac (ok_iconst (l := l) (B := B) (y := m_La_strip) (pc := 10) (n := (1)) (zd_dr dc_La_strip 6 rfl) rfl) ?_
  refine zd_ac (ok_iret (l := l) (B := B) (y := m_La_strip) (pc := 11) rfl (zd_dr dc_La_strip 7 rfl)) ?_
  refine zd_ac (ok_astore_n (l := l) (B := B) (y := m_La_strip) (pc := 12) (k := 3) rfl (zd_dr dc_La_strip 8 rfl) (by decide)) ?_
  refine zd_ac (ok_iconst (l := l) (B := B) (y := m_La_strip) (pc := 13) (n := (2)) (zd_dr dc_La_strip 9 rfl) rfl) ?_
  refine zd_ac (ok_iret (l := l) (B := B) (y := m_La_strip) (pc := 14) rfl (zd_dr dc_La_strip 10 rfl)) ?_
  refine zd_ac (ok_iconst (l := l) (B := B) (y := m_La_strip) (pc := 15) (n := (0)) (zd_dr dc_La_strip 11 rfl) rfl) ?_
  refine zd_ac (ok_iret (l := l) (B := B) (y := m_La_strip) (pc := 16) rfl (zd_dr dc_La_strip 12 rfl)) ?_
  exact zd_an
def zh_La_shift : List (Nat × Nat × Nat × Nat) := [(0, 7, 10, 13), (0, 7, 14, 17)]
def dl_La_shift : List (Nat × Instr × Nat) := [(0, .aload_n 0, 1), (1, .iload_n 1, 1), (2, .iload_n 2, 1), (3, .iload_n 3, 1), (4, .invokevirtual 58, 3), (7, .goto (11), 3), (10, .astore 4, 2), (12, .iconst (1), 1), (13, .ireturn, 1), (14, .astore 4, 2), (16, .iconst (2), 1), (17, .ireturn, 1), (18, .iconst (0), 1), (19, .ireturn, 1)]
theorem dc_La_shift : ∀ q ∈ dl_La_shift, decode (zd_yb m_La_shift) q.1 = .ok q.2 := by decide +kernel
def cd_La_shift (l : Launch) (B : zd_B) : List (Nat × zd_S) := [(0, oc_aload 0 1), (1, oc_iload 1 2), (2, oc_iload 2 3), (3, oc_iload 3 4), (4, oc_callvh l B zh_La_shift 0 m_De_shift 3 4), (7, oc_goto 18), (10, oc_astore 4 12), (12, oc_ci (1) 13), (13, oc_iret .int), (14, oc_astore 4 16), (16, oc_ci (2) 17), (17, oc_iret .int), (18, oc_ci (0) 19), (19, oc_iret .int)]
set_option maxRecDepth 20000 in
theorem ok_La_shift {l : Launch} {B : zd_B} (hG : zd_G B) (hl : l.stackTraces = false) (hN : zd_N B) : ∀ q ∈ cd_La_shift l B, zd_ok l B m_La_shift q.1 q.2 := by
  unfold cd_La_shift
  refine zd_ac (ok_aload_n (l := l) (B := B) (y := m_La_shift) (pc := 0) (k := 0) rfl (zd_dr dc_La_shift 0 rfl)) ?_
  refine zd_ac (ok_iload_n (l := l) (B := B) (y := m_La_shift) (pc := 1) (k := 1) rfl (zd_dr dc_La_shift 1 rfl)) ?_
  refine zd_ac (ok_iload_n (l := l) (B := B) (y := m_La_shift) (pc := 2) (k := 2) rfl (zd_dr dc_La_shift 2 rfl)) ?_
  refine zd_ac (ok_iload_n (l := l) (B := B) (y := m_La_shift) (pc := 3) (k := 3) rfl (zd_dr dc_La_shift 3 rfl)) ?_
  refine zd_ac (ok_callvh (l := l) (B := B) (y := m_La_shift) (pc := 4) hG hN (ci := 0) rfl cf_La_shift_De_shift rfl rfl (by decide) (List.mem_of_getElem? (i := 769) (by decide +kernel)) (List.mem_of_getElem? (i := 770) (by decide +kernel)) (List.mem_of_getElem? (i := 771) (by decide +kernel)) (zd_dr dc_La_shift 4 rfl)) ?_
  refine zd_ac (ok_goto (l := l) (B := B) (y := m_La_shift) (pc := 7) (zd_dr dc_La_shift 5 rfl) (by decide)) ?_
  refine zd_ac (ok_astore (l := l) (B := B) (y := m_La_shift) (pc := 10) (zd_dr dc_La_shift 6 rfl) (by decide)) ?_
  refine zd_ac (ok_iconst (l := l) (B := B) (y := m_La_shift) (pc := 12) (n := (1)) (zd_dr dc_La_shift 7 rfl) rfl) ?_
  refine zd_ac (ok_iret (l := l) (B := B) (y := m_La_shift) (pc := 13) rfl (zd_dr dc_La_shift 8 rfl)) ?_
  refine zd_ac (ok_astore (l := l) (B := B) (y := m_La_shift) (pc := 14) (zd_dr dc_La_shift 9 rfl) (by decide)) ?_
  refine zd_ac (ok_iconst (l := l) (B := B) (y := m_La_shift) (pc := 16) (n := (2)) (zd_dr dc_La_shift 10 rfl) rfl) ?_
  refine zd_ac (ok_iret (l := l) (B := B) (y := m_La_shift) (pc := 17) rfl (zd_dr dc_La_shift 11 rfl)) ?_
  refine zd_ac (ok_iconst (l := l) (B := B) (y := m_La_shift) (pc := 18) (n := (0)) (zd_dr dc_La_shift 12 rfl) rfl) ?_
  refine zd_ac (ok_iret (l := l) (B := B) (y := m_La_shift) (pc := 19) rfl (zd_dr dc_La_shift 13 rfl)) ?_
  exact zd_an
def zh_La_negate : List (Nat × Nat × Nat × Nat) := [(0, 6, 9, 13)]
def dl_La_negate : List (Nat × Instr × Nat) := [(0, .aload_n 0, 1), (1, .iload_n 1, 1), (2, .iload_n 2, 1), (3, .invokevirtual 61, 3), (6, .goto (6), 3), (9, .astore_n 3, 1), (10, .iconst (1), 1), (11, .ireturn, 1), (12, .iconst (0), 1), (13, .ireturn, 1)]
theorem dc_La_negate : ∀ q ∈ dl_La_negate, decode (zd_yb m_La_negate) q.1 = .ok q.2 := by decide +kernel
def cd_La_negate (l : Launch) (B : zd_B) : List (Nat × zd_S) := [(0, oc_aload 0 1), (1, oc_iload 1 2), (2, oc_iload 2 3), (3, oc_callvh l B zh_La_negate 0 m_De_negate 2 3), (6, oc_goto 12), (9, oc_astore 3 10), (10, oc_ci (1) 11), (11, oc_iret .int), (12, oc_ci (0) 13), (13, oc_iret .int)]
set_option maxRecDepth 20000 in
theorem ok_La_negate {l : Launch} {B : zd_B} (hG : zd_G B) (hl : l.stackTraces = false) (hN : zd_N B) : ∀ q ∈ cd_La_negate l B, zd_ok l B m_La_negate q.1 q.2 := by
  unfold cd_La_negate
  refine zd_ac (ok_aload_n (l := l) (B := B) (y := m_La_negate) (pc := 0) (k := 0) rfl (zd_dr dc_La_negate 0 rfl)) ?_
  refine zd_ac (ok_iload_n (l := l) (B := B) (y := m_La_negate) (pc := 1) (k := 1) rfl (zd_dr dc_La_negate 1 rfl)) ?_
  refine zd_ac (ok_iload_n (l := l) (B := B) (y := m_La_negate) (pc := 2) (k := 2) rfl (zd_dr dc_La_negate 2 rfl)) ?_
  refine zd_ac (ok_callvh (l := l) (B := B) (y := m_La_negate) (pc := 3) hG hN (ci := 0) rfl cf_La_negate_De_negate rfl rfl (by decide) (List.mem_of_getElem? (i := 776) (by decide +kernel)) (List.mem_of_getElem? (i := 777) (by decide +kernel)) (List.mem_of_getElem? (i := 778) (by decide +kernel)) (zd_dr dc_La_negate 3 rfl)) ?_
  refine zd_ac (ok_goto (l := l) (B := B) (y := m_La_negate) (pc := 6) (zd_dr dc_La_negate 4 rfl) (by decide)) ?_
  refine zd_ac (ok_astore_n (l := l) (B := B) (y := m_La_negate) (pc := 9) (k := 3) rfl (zd_dr dc_La_negate 5 rfl) (by decide)) ?_
  refine zd_ac (ok_iconst (l := l) (B := B) (y := m_La_negate) (pc := 10) (n := (1)) (zd_dr dc_La_negate 6 rfl) rfl) ?_
  refine zd_ac (ok_iret (l := l) (B := B) (y := m_La_negate) (pc := 11) rfl (zd_dr dc_La_negate 7 rfl)) ?_
  refine zd_ac (ok_iconst (l := l) (B := B) (y := m_La_negate) (pc := 12) (n := (0)) (zd_dr dc_La_negate 8 rfl) rfl) ?_
  refine zd_ac (ok_iret (l := l) (B := B) (y := m_La_negate) (pc := 13) rfl (zd_dr dc_La_negate 9 rfl)) ?_
  exact zd_an
def zh_La_compare : List (Nat × Nat × Nat × Nat) := [(0, 10, 13, 13)]
def dl_La_compare : List (Nat × Instr × Nat) := [(0, .aload_n 3, 1), (1, .iconst (0), 1), (2, .aload_n 0, 1), (3, .iload_n 1, 1), (4, .iload_n 2, 1), (5, .invokevirtual 64, 3), (8, .i2l, 1), (9, .lastore, 1), (10, .goto (7), 3), (13, .astore 4, 2), (15, .iconst (1), 1), (16, .ireturn, 1), (17, .iconst (0), 1), (18, .ireturn, 1)]
theorem dc_La_compare : ∀ q ∈ dl_La_compare, decode (zd_yb m_La_compare) q.1 = .ok q.2 := by decide +kernel
def cd_La_compare (l : Launch) (B : zd_B) : List (Nat × zd_S) := [(0, oc_aload 3 1), (1, oc_ci (0) 2), (2, oc_aload 0 3), (3, oc_iload 1 4), (4, oc_iload 2 5), (5, oc_callvh l B zh_La_compare 0 m_De_compare 2 5), (8, oc_i2l 9), (9, oc_lastore B 10), (10, oc_goto 17), (13, oc_astore 4 15), (15, oc_ci (1) 16), (16, oc_iret .int), (17, oc_ci (0) 18), (18, oc_iret .int)]
set_option maxRecDepth 20000 in
theorem ok_La_compare {l : Launch} {B : zd_B} (hG : zd_G B) (hl : l.stackTraces = false) (hN : zd_N B) : ∀ q ∈ cd_La_compare l B, zd_ok l B m_La_compare q.1 q.2 := by
  unfold cd_La_compare
  refine zd_ac (ok_aload_n (l := l) (B := B) (y := m_La_compare) (pc := 0) (k := 3) rfl (zd_dr dc_La_compare 0 rfl)) ?_
  refine zd_ac (ok_iconst (l := l) (B := B) (y := m_La_compare) (pc := 1) (n := (0)) (zd_dr dc_La_compare 1 rfl) rfl) ?_
  refine zd_ac (ok_aload_n (l := l) (B := B) (y := m_La_compare) (pc := 2) (k := 0) rfl (zd_dr dc_La_compare 2 rfl)) ?_
  refine zd_ac (ok_iload_n (l := l) (B := B) (y := m_La_compare) (pc := 3) (k := 1) rfl (zd_dr dc_La_compare 3 rfl)) ?_
  refine zd_ac (ok_iload_n (l := l) (B := B) (y := m_La_compare) (pc := 4) (k := 2) rfl (zd_dr dc_La_compare 4 rfl)) ?_
  refine zd_ac (ok_callvh (l := l) (B := B) (y := m_La_compare) (pc := 5) hG hN (ci := 0) rfl cf_La_compare_De_compare rfl rfl (by decide) (List.mem_of_getElem? (i := 783) (by decide +kernel)) (List.mem_of_getElem? (i := 784) (by decide +kernel)) (List.mem_of_getElem? (i := 785) (by decide +kernel)) (zd_dr dc_La_compare 5 rfl)) ?_
  refine zd_ac (ok_i2l (l := l) (B := B) (y := m_La_compare) (pc := 8) (zd_dr dc_La_compare 6 rfl)) ?_
  refine zd_ac (ok_lastore (l := l) (B := B) (y := m_La_compare) (pc := 9) hG (zd_dr dc_La_compare 7 rfl)) ?_
  refine zd_ac (ok_goto (l := l) (B := B) (y := m_La_compare) (pc := 10) (zd_dr dc_La_compare 8 rfl) (by decide)) ?_
  refine zd_ac (ok_astore (l := l) (B := B) (y := m_La_compare) (pc := 13) (zd_dr dc_La_compare 9 rfl) (by decide)) ?_
  refine zd_ac (ok_iconst (l := l) (B := B) (y := m_La_compare) (pc := 15) (n := (1)) (zd_dr dc_La_compare 10 rfl) rfl) ?_
  refine zd_ac (ok_iret (l := l) (B := B) (y := m_La_compare) (pc := 16) rfl (zd_dr dc_La_compare 11 rfl)) ?_
  refine zd_ac (ok_iconst (l := l) (B := B) (y := m_La_compare) (pc := 17) (n := (0)) (zd_dr dc_La_compare 12 rfl) rfl) ?_
  refine zd_ac (ok_iret (l := l) (B := B) (y := m_La_compare) (pc := 18) rfl (zd_dr dc_La_compare 13 rfl)) ?_
  exact zd_an
def zh_La_told : List (Nat × Nat × Nat × Nat) := [(0, 10, 13, 13), (0, 10, 17, 71)]
def dl_La_told : List (Nat × Instr × Nat) := [(0, .aload_n 3, 1), (1, .iconst (0), 1), (2, .aload_n 0, 1), (3, .iload_n 1, 1), (4, .iload_n 2, 1), (5, .invokevirtual 68, 3), (8, .i2l, 1), (9, .lastore, 1), (10, .goto (11), 3), (13, .astore 4, 2), (15, .iconst (1), 1), (16, .ireturn, 1), (17, .astore 4, 2), (19, .iconst (2), 1), (20, .ireturn, 1), (21, .iconst (0), 1), (22, .ireturn, 1)]
theorem dc_La_told : ∀ q ∈ dl_La_told, decode (zd_yb m_La_told) q.1 = .ok q.2 := by decide +kernel
def cd_La_told (l : Launch) (B : zd_B) : List (Nat × zd_S) := [(0, oc_aload 3 1), (1, oc_ci (0) 2), (2, oc_aload 0 3), (3, oc_iload 1 4), (4, oc_iload 2 5), (5, oc_callvh l B zh_La_told 0 m_De_told 2 5), (8, oc_i2l 9), (9, oc_lastore B 10), (10, oc_goto 21), (13, oc_astore 4 15), (15, oc_ci (1) 16), (16, oc_iret .int), (17, oc_astore 4 19), (19, oc_ci (2) 20), (20, oc_iret .int), (21, oc_ci (0) 22), (22, oc_iret .int)]
set_option maxRecDepth 20000 in
theorem ok_La_told {l : Launch} {B : zd_B} (hG : zd_G B) (hl : l.stackTraces = false) (hN : zd_N B) : ∀ q ∈ cd_La_told l B, zd_ok l B m_La_told q.1 q.2 := by
  unfold cd_La_told
  refine zd_ac (ok_aload_n (l := l) (B := B) (y := m_La_told) (pc := 0) (k := 3) rfl (zd_dr dc_La_told 0 rfl)) ?_
  refine zd_ac (ok_iconst (l := l) (B := B) (y := m_La_told) (pc := 1) (n := (0)) (zd_dr dc_La_told 1 rfl) rfl) ?_
  refine zd_ac (ok_aload_n (l := l) (B := B) (y := m_La_told) (pc := 2) (k := 0) rfl (zd_dr dc_La_told 2 rfl)) ?_
  refine zd_ac (ok_iload_n (l := l) (B := B) (y := m_La_told) (pc := 3) (k := 1) rfl (zd_dr dc_La_told 3 rfl)) ?_
  refine zd_ac (ok_iload_n (l := l) (B := B) (y := m_La_told) (pc := 4) (k := 2) rfl (zd_dr dc_La_told 4 rfl)) ?_
  refine zd_ac (ok_callvh (l := l) (B := B) (y := m_La_told) (pc := 5) hG hN (ci := 0) rfl cf_La_told_De_told rfl rfl (by decide) (List.mem_of_getElem? (i := 800) (by decide +kernel)) (List.mem_of_getElem? (i := 801) (by decide +kernel)) (List.mem_of_getElem? (i := 802) (by decide +kernel)) (zd_dr dc_La_told 5 rfl)) ?_
  refine zd_ac (ok_i2l (l := l) (B := B) (y := m_La_told) (pc := 8) (zd_dr dc_La_told 6 rfl)) ?_
  refine zd_ac (ok_lastore (l := l) (B := B) (y := m_La_told) (pc := 9) hG (zd_dr dc_La_told 7 rfl)) ?_
  refine zd_ac (ok_goto (l := l) (B := B) (y := m_La_told) (pc := 10) (zd_dr dc_La_told 8 rfl) (by decide)) ?_
  refine zd_ac (ok_astore (l := l) (B := B) (y := m_La_told) (pc := 13) (zd_dr dc_La_told 9 rfl) (by decide)) ?_
  refine zd_ac (ok_iconst (l := l) (B := B) (y := m_La_told) (pc := 15) (n := (1)) (zd_dr dc_La_told 10 rfl) rfl) ?_
  refine zd_ac (ok_iret (l := l) (B := B) (y := m_La_told) (pc := 16) rfl (zd_dr dc_La_told 11 rfl)) ?_
  refine zd_ac (ok_astore (l := l) (B := B) (y := m_La_told) (pc := 17) (zd_dr dc_La_told 12 rfl) (by decide)) ?_
  refine zd_ac (ok_iconst (l := l) (B := B) (y := m_La_told) (pc := 19) (n := (2)) (zd_dr dc_La_told 13 rfl) rfl) ?_
  refine zd_ac (ok_iret (l := l) (B := B) (y := m_La_told) (pc := 20) rfl (zd_dr dc_La_told 14 rfl)) ?_
  refine zd_ac (ok_iconst (l := l) (B := B) (y := m_La_told) (pc := 21) (n := (0)) (zd_dr dc_La_told 15 rfl) rfl) ?_
  refine zd_ac (ok_iret (l := l) (B := B) (y := m_La_told) (pc := 22) rfl (zd_dr dc_La_told 16 rfl)) ?_
  exact zd_an
def zh_La_written : List (Nat × Nat × Nat × Nat) := [(0, 10, 13, 13)]
def dl_La_written : List (Nat × Instr × Nat) := [(0, .aload_n 3, 1), (1, .iconst (0), 1), (2, .aload_n 0, 1), (3, .iload_n 1, 1), (4, .iload_n 2, 1), (5, .invokevirtual 73, 3), (8, .i2l, 1), (9, .lastore, 1), (10, .goto (7), 3), (13, .astore 4, 2), (15, .iconst (1), 1), (16, .ireturn, 1), (17, .iconst (0), 1), (18, .ireturn, 1)]
theorem dc_La_written : ∀ q ∈ dl_La_written, decode (zd_yb m_La_written) q.1 = .ok q.2 := by decide +kernel
def cd_La_written (l : Launch) (B : zd_B) : List (Nat × zd_S) := [(0, oc_aload 3 1), (1, oc_ci (0) 2), (2, oc_aload 0 3), (3, oc_iload 1 4), (4, oc_iload 2 5), (5, oc_callvh l B zh_La_written 0 m_De_written 2 5), (8, oc_i2l 9), (9, oc_lastore B 10), (10, oc_goto 17), (13, oc_astore 4 15), (15, oc_ci (1) 16), (16, oc_iret .int), (17, oc_ci (0) 18), (18, oc_iret .int)]
set_option maxRecDepth 20000 in
theorem ok_La_written {l : Launch} {B : zd_B} (hG : zd_G B) (hl : l.stackTraces = false) (hN : zd_N B) : ∀ q ∈ cd_La_written l B, zd_ok l B m_La_written q.1 q.2 := by
  unfold cd_La_written
  refine zd_ac (ok_aload_n (l := l) (B := B) (y := m_La_written) (pc := 0) (k := 3) rfl (zd_dr dc_La_written 0 rfl)) ?_
  refine zd_ac (ok_iconst (l := l) (B := B) (y := m_La_written) (pc := 1) (n := (0)) (zd_dr dc_La_written 1 rfl) rfl) ?_
  refine zd_ac (ok_aload_n (l := l) (B := B) (y := m_La_written) (pc := 2) (k := 0) rfl (zd_dr dc_La_written 2 rfl)) ?_
  refine zd_ac (ok_iload_n (l := l) (B := B) (y := m_La_written) (pc := 3) (k := 1) rfl (zd_dr dc_La_written 3 rfl)) ?_
  refine zd_ac (ok_iload_n (l := l) (B := B) (y := m_La_written) (pc := 4) (k := 2) rfl (zd_dr dc_La_written 4 rfl)) ?_
  refine zd_ac (ok_callvh (l := l) (B := B) (y := m_La_written) (pc := 5) hG hN (ci := 0) rfl cf_La_written_De_written rfl rfl (by decide) (List.mem_of_getElem? (i := 824) (by decide +kernel)) (List.mem_of_getElem? (i := 825) (by decide +kernel)) (List.mem_of_getElem? (i := 826) (by decide +kernel)) (zd_dr dc_La_written 5 rfl)) ?_
  refine zd_ac (ok_i2l (l := l) (B := B) (y := m_La_written) (pc := 8) (zd_dr dc_La_written 6 rfl)) ?_
  refine zd_ac (ok_lastore (l := l) (B := B) (y := m_La_written) (pc := 9) hG (zd_dr dc_La_written 7 rfl)) ?_
  refine zd_ac (ok_goto (l := l) (B := B) (y := m_La_written) (pc := 10) (zd_dr dc_La_written 8 rfl) (by decide)) ?_
  refine zd_ac (ok_astore (l := l) (B := B) (y := m_La_written) (pc := 13) (zd_dr dc_La_written 9 rfl) (by decide)) ?_
  refine zd_ac (ok_iconst (l := l) (B := B) (y := m_La_written) (pc := 15) (n := (1)) (zd_dr dc_La_written 10 rfl) rfl) ?_
  refine zd_ac (ok_iret (l := l) (B := B) (y := m_La_written) (pc := 16) rfl (zd_dr dc_La_written 11 rfl)) ?_
  refine zd_ac (ok_iconst (l := l) (B := B) (y := m_La_written) (pc := 17) (n := (0)) (zd_dr dc_La_written 12 rfl) rfl) ?_
  refine zd_ac (ok_iret (l := l) (B := B) (y := m_La_written) (pc := 18) rfl (zd_dr dc_La_written 13 rfl)) ?_
  exact zd_an

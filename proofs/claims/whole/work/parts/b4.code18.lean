/-! written by gencode.py: code of the law -/
def dl_La_10 : List (Nat × Instr × Nat) := [(770, .aload_n 1, 1), (771, .aload_n 0, 1), (772, .iload 4, 2), (774, .iconst (1), 1), (775, .iadd, 1), (776, .iaload, 1), (777, .aload_n 0, 1), (778, .iload 4, 2), (780, .iconst (2), 1), (781, .iadd, 1), (782, .iaload, 1), (783, .aload_n 0, 1), (784, .iload 4, 2), (786, .iconst (3), 1), (787, .iadd, 1), (788, .iaload, 1), (789, .aload_n 0, 1), (790, .iload 4, 2), (792, .iconst (4), 1), (793, .iadd, 1), (794, .iaload, 1), (795, .invokestatic 126, 3), (798, .istore 5, 2), (800, .aload_n 2, 1), (801, .aload_n 0, 1), (802, .iload 4, 2), (804, .iconst (1), 1), (805, .iadd, 1), (806, .iaload, 1), (807, .aload_n 0, 1), (808, .iload 4, 2), (810, .iconst (2), 1), (811, .iadd, 1), (812, .iaload, 1), (813, .aload_n 0, 1), (814, .iload 4, 2), (816, .iconst (3), 1), (817, .iadd, 1), (818, .iaload, 1), (819, .aload_n 0, 1), (820, .iload 4, 2), (822, .iconst (4), 1), (823, .iadd, 1), (824, .iaload, 1), (825, .invokevirtual 129, 3), (828, .aload_n 2, 1), (829, .invokevirtual 98, 3), (832, .iload 5, 2), (834, .if_icmp .eq (5), 3), (837, .iconst (0), 1), (838, .ireturn, 1), (839, .goto (532), 3)]
theorem dc_La_10 : ∀ q ∈ dl_La_10, decode (zd_yb m_La_law) q.1 = .ok q.2 := by decide +kernel
def cd_La_10 (l : Launch) (B : zd_B) : List (Nat × zd_S) := [(770, oc_aload 1 771), (771, oc_aload 0 772), (772, oc_iload 4 774), (774, oc_ci (1) 775), (775, oc_iadd 776), (776, oc_iaload B 777), (777, oc_aload 0 778), (778, oc_iload 4 780), (780, oc_ci (2) 781), (781, oc_iadd 782), (782, oc_iaload B 783), (783, oc_aload 0 784), (784, oc_iload 4 786), (786, oc_ci (3) 787), (787, oc_iadd 788), (788, oc_iaload B 789), (789, oc_aload 0 790), (790, oc_iload 4 792), (792, oc_ci (4) 793), (793, oc_iadd 794), (794, oc_iaload B 795), (795, oc_calls l B m_La_root 5 798), (798, oc_istore 5 800), (800, oc_aload 2 801), (801, oc_aload 0 802), (802, oc_iload 4 804), (804, oc_ci (1) 805), (805, oc_iadd 806), (806, oc_iaload B 807), (807, oc_aload 0 808), (808, oc_iload 4 810), (810, oc_ci (2) 811), (811, oc_iadd 812), (812, oc_iaload B 813), (813, oc_aload 0 814), (814, oc_iload 4 816), (816, oc_ci (3) 817), (817, oc_iadd 818), (818, oc_iaload B 819), (819, oc_aload 0 820), (820, oc_iload 4 822), (822, oc_ci (4) 823), (823, oc_iadd 824), (824, oc_iaload B 825), (825, oc_callv l B 8 m_Mo_root 4 828), (828, oc_aload 2 829), (829, oc_callv l B 8 m_Mo_thrown 0 832), (832, oc_iload 5 834), (834, oc_icmp_eq 839 837), (837, oc_ci (0) 838), (838, oc_iret .boolean), (839, oc_goto 1371)]
set_option maxRecDepth 20000 in
theorem ok_La_10 {l : Launch} {B : zd_B} (hG : zd_G B) (hl : l.stackTraces = false) : ∀ q ∈ cd_La_10 l B, zd_ok l B m_La_law q.1 q.2 := by
  unfold cd_La_10
  refine zd_ac (ok_aload_n (l := l) (B := B) (y := m_La_law) (pc := 770) (k := 1) rfl (zd_dr dc_La_10 0 rfl)) ?_
  refine zd_ac (ok_aload_n (l := l) (B := B) (y := m_La_law) (pc := 771) (k := 0) rfl (zd_dr dc_La_10 1 rfl)) ?_
  refine zd_ac (ok_iload (l := l) (B := B) (y := m_La_law) (pc := 772) (zd_dr dc_La_10 2 rfl)) ?_
  refine zd_ac (ok_iconst (l := l) (B := B) (y := m_La_law) (pc := 774) (n := (1)) (zd_dr dc_La_10 3 rfl) rfl) ?_
  refine zd_ac (ok_iadd (l := l) (B := B) (y := m_La_law) (pc := 775) (zd_dr dc_La_10 4 rfl)) ?_
  refine zd_ac (ok_iaload (l := l) (B := B) (y := m_La_law) (pc := 776) hG (zd_dr dc_La_10 5 rfl)) ?_
  refine zd_ac (ok_aload_n (l := l) (B := B) (y := m_La_law) (pc := 777) (k := 0) rfl (zd_dr dc_La_10 6 rfl)) ?_
  refine zd_ac (ok_iload (l := l) (B := B) (y := m_La_law) (pc := 778) (zd_dr dc_La_10 7 rfl)) ?_
  refine zd_ac (ok_iconst (l := l) (B := B) (y := m_La_law) (pc := 780) (n := (2)) (zd_dr dc_La_10 8 rfl) rfl) ?_
  refine zd_ac (ok_iadd (l := l) (B := B) (y := m_La_law) (pc := 781) (zd_dr dc_La_10 9 rfl)) ?_
  refine zd_ac (ok_iaload (l := l) (B := B) (y := m_La_law) (pc := 782) hG (zd_dr dc_La_10 10 rfl)) ?_
  refine zd_ac (ok_aload_n (l := l) (B := B) (y := m_La_law) (pc := 783) (k := 0) rfl (zd_dr dc_La_10 11 rfl)) ?_
  refine zd_ac (ok_iload (l := l) (B := B) (y := m_La_law) (pc := 784) (zd_dr dc_La_10 12 rfl)) ?_
  refine zd_ac (ok_iconst (l := l) (B := B) (y := m_La_law) (pc := 786) (n := (3)) (zd_dr dc_La_10 13 rfl) rfl) ?_
  refine zd_ac (ok_iadd (l := l) (B := B) (y := m_La_law) (pc := 787) (zd_dr dc_La_10 14 rfl)) ?_
  refine zd_ac (ok_iaload (l := l) (B := B) (y := m_La_law) (pc := 788) hG (zd_dr dc_La_10 15 rfl)) ?_
  refine zd_ac (ok_aload_n (l := l) (B := B) (y := m_La_law) (pc := 789) (k := 0) rfl (zd_dr dc_La_10 16 rfl)) ?_
  refine zd_ac (ok_iload (l := l) (B := B) (y := m_La_law) (pc := 790) (zd_dr dc_La_10 17 rfl)) ?_
  refine zd_ac (ok_iconst (l := l) (B := B) (y := m_La_law) (pc := 792) (n := (4)) (zd_dr dc_La_10 18 rfl) rfl) ?_
  refine zd_ac (ok_iadd (l := l) (B := B) (y := m_La_law) (pc := 793) (zd_dr dc_La_10 19 rfl)) ?_
  refine zd_ac (ok_iaload (l := l) (B := B) (y := m_La_law) (pc := 794) hG (zd_dr dc_La_10 20 rfl)) ?_
  refine zd_ac (ok_calls (l := l) (B := B) (y := m_La_law) (pc := 795) hG cf_La_law_La_root rfl (List.mem_of_getElem? (i := 714) (by decide +kernel)) (List.mem_of_getElem? (i := 715) (by decide +kernel)) (List.mem_of_getElem? (i := 55) (by decide +kernel)) (zd_dr dc_La_10 21 rfl)) ?_
  refine zd_ac (ok_istore (l := l) (B := B) (y := m_La_law) (pc := 798) (zd_dr dc_La_10 22 rfl) (by decide)) ?_
  refine zd_ac (ok_aload_n (l := l) (B := B) (y := m_La_law) (pc := 800) (k := 2) rfl (zd_dr dc_La_10 23 rfl)) ?_
  refine zd_ac (ok_aload_n (l := l) (B := B) (y := m_La_law) (pc := 801) (k := 0) rfl (zd_dr dc_La_10 24 rfl)) ?_
  refine zd_ac (ok_iload (l := l) (B := B) (y := m_La_law) (pc := 802) (zd_dr dc_La_10 25 rfl)) ?_
  refine zd_ac (ok_iconst (l := l) (B := B) (y := m_La_law) (pc := 804) (n := (1)) (zd_dr dc_La_10 26 rfl) rfl) ?_
  refine zd_ac (ok_iadd (l := l) (B := B) (y := m_La_law) (pc := 805) (zd_dr dc_La_10 27 rfl)) ?_
  refine zd_ac (ok_iaload (l := l) (B := B) (y := m_La_law) (pc := 806) hG (zd_dr dc_La_10 28 rfl)) ?_
  refine zd_ac (ok_aload_n (l := l) (B := B) (y := m_La_law) (pc := 807) (k := 0) rfl (zd_dr dc_La_10 29 rfl)) ?_
  refine zd_ac (ok_iload (l := l) (B := B) (y := m_La_law) (pc := 808) (zd_dr dc_La_10 30 rfl)) ?_
  refine zd_ac (ok_iconst (l := l) (B := B) (y := m_La_law) (pc := 810) (n := (2)) (zd_dr dc_La_10 31 rfl) rfl) ?_
  refine zd_ac (ok_iadd (l := l) (B := B) (y := m_La_law) (pc := 811) (zd_dr dc_La_10 32 rfl)) ?_
  refine zd_ac (ok_iaload (l := l) (B := B) (y := m_La_law) (pc := 812) hG (zd_dr dc_La_10 33 rfl)) ?_
  refine zd_ac (ok_aload_n (l := l) (B := B) (y := m_La_law) (pc := 813) (k := 0) rfl (zd_dr dc_La_10 34 rfl)) ?_
  refine zd_ac (ok_iload (l := l) (B := B) (y := m_La_law) (pc := 814) (zd_dr dc_La_10 35 rfl)) ?_
  refine zd_ac (ok_iconst (l := l) (B := B) (y := m_La_law) (pc := 816) (n := (3)) (zd_dr dc_La_10 36 rfl) rfl) ?_
  refine zd_ac (ok_iadd (l := l) (B := B) (y := m_La_law) (pc := 817) (zd_dr dc_La_10 37 rfl)) ?_
  refine zd_ac (ok_iaload (l := l) (B := B) (y := m_La_law) (pc := 818) hG (zd_dr dc_La_10 38 rfl)) ?_
  refine zd_ac (ok_aload_n (l := l) (B := B) (y := m_La_law) (pc := 819) (k := 0) rfl (zd_dr dc_La_10 39 rfl)) ?_
  refine zd_ac (ok_iload (l := l) (B := B) (y := m_La_law) (pc := 820) (zd_dr dc_La_10 40 rfl)) ?_
  refine zd_ac (ok_iconst (l := l) (B := B) (y := m_La_law) (pc := 822) (n := (4)) (zd_dr dc_La_10 41 rfl) rfl) ?_
  refine zd_ac (ok_iadd (l := l) (B := B) (y := m_La_law) (pc := 823) (zd_dr dc_La_10 42 rfl)) ?_
  refine zd_ac (ok_iaload (l := l) (B := B) (y := m_La_law) (pc := 824) hG (zd_dr dc_La_10 43 rfl)) ?_
  refine zd_ac (ok_callv (l := l) (B := B) (y := m_La_law) (pc := 825) hG (ci := 8) rfl cf_La_law_Mo_root rfl (List.mem_of_getElem? (i := 1104) (by decide +kernel)) (List.mem_of_getElem? (i := 1105) (by decide +kernel)) (List.mem_of_getElem? (i := 1106) (by decide +kernel)) (zd_dr dc_La_10 44 rfl)) ?_
  refine zd_ac (ok_aload_n (l := l) (B := B) (y := m_La_law) (pc := 828) (k := 2) rfl (zd_dr dc_La_10 45 rfl)) ?_
  refine zd_ac (ok_callv (l := l) (B := B) (y := m_La_law) (pc := 829) hG (ci := 8) rfl cf_La_law_Mo_thrown rfl (List.mem_of_getElem? (i := 947) (by decide +kernel)) (List.mem_of_getElem? (i := 948) (by decide +kernel)) (List.mem_of_getElem? (i := 949) (by decide +kernel)) (zd_dr dc_La_10 46 rfl)) ?_
  refine zd_ac (ok_iload (l := l) (B := B) (y := m_La_law) (pc := 832) (zd_dr dc_La_10 47 rfl)) ?_
  refine zd_ac (ok_icmp_eq (l := l) (B := B) (y := m_La_law) (pc := 834) (zd_dr dc_La_10 48 rfl) (by decide)) ?_
  refine zd_ac (ok_iconst (l := l) (B := B) (y := m_La_law) (pc := 837) (n := (0)) (zd_dr dc_La_10 49 rfl) rfl) ?_
  refine zd_ac (ok_iret (l := l) (B := B) (y := m_La_law) (pc := 838) rfl (zd_dr dc_La_10 50 rfl)) ?_
  refine zd_ac (ok_goto (l := l) (B := B) (y := m_La_law) (pc := 839) (zd_dr dc_La_10 51 rfl) (by decide)) ?_
  exact zd_an
def dl_La_11 : List (Nat × Instr × Nat) := [(842, .aload_n 1, 1), (843, .aload_n 0, 1), (844, .iload 4, 2), (846, .iconst (1), 1), (847, .iadd, 1), (848, .iaload, 1), (849, .aload_n 0, 1), (850, .iload 4, 2), (852, .iconst (2), 1), (853, .iadd, 1), (854, .iaload, 1), (855, .aload_n 0, 1), (856, .iload 4, 2), (858, .iconst (3), 1), (859, .iadd, 1), (860, .iaload, 1), (861, .aload_n 0, 1), (862, .iload 4, 2), (864, .iconst (4), 1), (865, .iadd, 1), (866, .iaload, 1), (867, .invokestatic 130, 3), (870, .istore 5, 2), (872, .aload_n 2, 1), (873, .aload_n 0, 1), (874, .iload 4, 2), (876, .iconst (1), 1), (877, .iadd, 1), (878, .iaload, 1), (879, .aload_n 0, 1), (880, .iload 4, 2), (882, .iconst (2), 1), (883, .iadd, 1), (884, .iaload, 1), (885, .aload_n 0, 1), (886, .iload 4, 2), (888, .iconst (3), 1), (889, .iadd, 1), (890, .iaload, 1), (891, .aload_n 0, 1), (892, .iload 4, 2), (894, .iconst (4), 1), (895, .iadd, 1), (896, .iaload, 1), (897, .invokevirtual 132, 3), (900, .aload_n 2, 1), (901, .invokevirtual 98, 3), (904, .iload 5, 2), (906, .if_icmp .eq (5), 3), (909, .iconst (0), 1), (910, .ireturn, 1), (911, .goto (460), 3)]
theorem dc_La_11 : ∀ q ∈ dl_La_11, decode (zd_yb m_La_law) q.1 = .ok q.2 := by decide +kernel
def cd_La_11 (l : Launch) (B : zd_B) : List (Nat × zd_S) := [(842, oc_aload 1 843), (843, oc_aload 0 844), (844, oc_iload 4 846), (846, oc_ci (1) 847), (847, oc_iadd 848), (848, oc_iaload B 849), (849, oc_aload 0 850), (850, oc_iload 4 852), (852, oc_ci (2) 853), (853, oc_iadd 854), (854, oc_iaload B 855), (855, oc_aload 0 856), (856, oc_iload 4 858), (858, oc_ci (3) 859), (859, oc_iadd 860), (860, oc_iaload B 861), (861, oc_aload 0 862), (862, oc_iload 4 864), (864, oc_ci (4) 865), (865, oc_iadd 866), (866, oc_iaload B 867), (867, oc_calls l B m_La_toScale 5 870), (870, oc_istore 5 872), (872, oc_aload 2 873), (873, oc_aload 0 874), (874, oc_iload 4 876), (876, oc_ci (1) 877), (877, oc_iadd 878), (878, oc_iaload B 879), (879, oc_aload 0 880), (880, oc_iload 4 882), (882, oc_ci (2) 883), (883, oc_iadd 884), (884, oc_iaload B 885), (885, oc_aload 0 886), (886, oc_iload 4 888), (888, oc_ci (3) 889), (889, oc_iadd 890), (890, oc_iaload B 891), (891, oc_aload 0 892), (892, oc_iload 4 894), (894, oc_ci (4) 895), (895, oc_iadd 896), (896, oc_iaload B 897), (897, oc_callv l B 8 m_Mo_toScale 4 900), (900, oc_aload 2 901), (901, oc_callv l B 8 m_Mo_thrown 0 904), (904, oc_iload 5 906), (906, oc_icmp_eq 911 909), (909, oc_ci (0) 910), (910, oc_iret .boolean), (911, oc_goto 1371)]
set_option maxRecDepth 20000 in
theorem ok_La_11 {l : Launch} {B : zd_B} (hG : zd_G B) (hl : l.stackTraces = false) : ∀ q ∈ cd_La_11 l B, zd_ok l B m_La_law q.1 q.2 := by
  unfold cd_La_11
  refine zd_ac (ok_aload_n (l := l) (B := B) (y := m_La_law) (pc := 842) (k := 1) rfl (zd_dr dc_La_11 0 rfl)) ?_
  refine zd_ac (ok_aload_n (l := l) (B := B) (y := m_La_law) (pc := 843) (k := 0) rfl (zd_dr dc_La_11 1 rfl)) ?_
  refine zd_ac (ok_iload (l := l) (B := B) (y := m_La_law) (pc := 844) (zd_dr dc_La_11 2 rfl)) ?_
  refine zd_ac (ok_iconst (l := l) (B := B) (y := m_La_law) (pc := 846) (n := (1)) (zd_dr dc_La_11 3 rfl) rfl) ?_
  refine zd_ac (ok_iadd (l := l) (B := B) (y := m_La_law) (pc := 847) (zd_dr dc_La_11 4 rfl)) ?_
  refine zd_ac (ok_iaload (l := l) (B := B) (y := m_La_law) (pc := 848) hG (zd_dr dc_La_11 5 rfl)) ?_
  refine zd_ac (ok_aload_n (l := l) (B := B) (y := m_La_law) (pc := 849) (k := 0) rfl (zd_dr dc_La_11 6 rfl)) ?_
  refine zd_ac (ok_iload (l := l) (B := B) (y := m_La_law) (pc := 850) (zd_dr dc_La_11 7 rfl)) ?_
  refine zd_ac (ok_iconst (l := l) (B := B) (y := m_La_law) (pc := 852) (n := (2)) (zd_dr dc_La_11 8 rfl) rfl) ?_
  refine zd_ac (ok_iadd (l := l) (B := B) (y := m_La_law) (pc := 853) (zd_dr dc_La_11 9 rfl)) ?_
  refine zd_ac (ok_iaload (l := l) (B := B) (y := m_La_law) (pc := 854) hG (zd_dr dc_La_11 10 rfl)) ?_
  refine zd_ac (ok_aload_n (l := l) (B := B) (y := m_La_law) (pc := 855) (k := 0) rfl (zd_dr dc_La_11 11 rfl)) ?_
  refine zd_ac (ok_iload (l := l) (B := B) (y := m_La_law) (pc := 856) (zd_dr dc_La_11 12 rfl)) ?_
  refine zd_ac (ok_iconst (l := l) (B := B) (y := m_La_law) (pc := 858) (n := (3)) (zd_dr dc_La_11 13 rfl) rfl) ?_
  refine zd_ac (ok_iadd (l := l) (B := B) (y := m_La_law) (pc := 859) (zd_dr dc_La_11 14 rfl)) ?_
  refine zd_ac (ok_iaload (l := l) (B := B) (y := m_La_law) (pc := 860) hG (zd_dr dc_La_11 15 rfl)) ?_
  refine zd_ac (ok_aload_n (l := l) (B := B) (y := m_La_law) (pc := 861) (k := 0) rfl (zd_dr dc_La_11 16 rfl)) ?_
  refine zd_ac (ok_iload (l := l) (B := B) (y := m_La_law) (pc := 862) (zd_dr dc_La_11 17 rfl)) ?_
  refine zd_ac (ok_iconst (l := l) (B := B) (y := m_La_law) (pc := 864) (n := (4)) (zd_dr dc_La_11 18 rfl) rfl) ?_
  refine zd_ac (ok_iadd (l := l) (B := B) (y := m_La_law) (pc := 865) (zd_dr dc_La_11 19 rfl)) ?_
  refine zd_ac (ok_iaload (l := l) (B := B) (y := m_La_law) (pc := 866) hG (zd_dr dc_La_11 20 rfl)) ?_
  refine zd_ac (ok_calls (l := l) (B := B) (y := m_La_law) (pc := 867) hG cf_La_law_La_toScale rfl (List.mem_of_getElem? (i := 744) (by decide +kernel)) (List.mem_of_getElem? (i := 745) (by decide +kernel)) (List.mem_of_getElem? (i := 55) (by decide +kernel)) (zd_dr dc_La_11 21 rfl)) ?_
  refine zd_ac (ok_istore (l := l) (B := B) (y := m_La_law) (pc := 870) (zd_dr dc_La_11 22 rfl) (by decide)) ?_
  refine zd_ac (ok_aload_n (l := l) (B := B) (y := m_La_law) (pc := 872) (k := 2) rfl (zd_dr dc_La_11 23 rfl)) ?_
  refine zd_ac (ok_aload_n (l := l) (B := B) (y := m_La_law) (pc := 873) (k := 0) rfl (zd_dr dc_La_11 24 rfl)) ?_
  refine zd_ac (ok_iload (l := l) (B := B) (y := m_La_law) (pc := 874) (zd_dr dc_La_11 25 rfl)) ?_
  refine zd_ac (ok_iconst (l := l) (B := B) (y := m_La_law) (pc := 876) (n := (1)) (zd_dr dc_La_11 26 rfl) rfl) ?_
  refine zd_ac (ok_iadd (l := l) (B := B) (y := m_La_law) (pc := 877) (zd_dr dc_La_11 27 rfl)) ?_
  refine zd_ac (ok_iaload (l := l) (B := B) (y := m_La_law) (pc := 878) hG (zd_dr dc_La_11 28 rfl)) ?_
  refine zd_ac (ok_aload_n (l := l) (B := B) (y := m_La_law) (pc := 879) (k := 0) rfl (zd_dr dc_La_11 29 rfl)) ?_
  refine zd_ac (ok_iload (l := l) (B := B) (y := m_La_law) (pc := 880) (zd_dr dc_La_11 30 rfl)) ?_
  refine zd_ac (ok_iconst (l := l) (B := B) (y := m_La_law) (pc := 882) (n := (2)) (zd_dr dc_La_11 31 rfl) rfl) ?_
  refine zd_ac (ok_iadd (l := l) (B := B) (y := m_La_law) (pc := 883) (zd_dr dc_La_11 32 rfl)) ?_
  refine zd_ac (ok_iaload (l := l) (B := B) (y := m_La_law) (pc := 884) hG (zd_dr dc_La_11 33 rfl)) ?_
  refine zd_ac (ok_aload_n (l := l) (B := B) (y := m_La_law) (pc := 885) (k := 0) rfl (zd_dr dc_La_11 34 rfl)) ?_
  refine zd_ac (ok_iload (l := l) (B := B) (y := m_La_law) (pc := 886) (zd_dr dc_La_11 35 rfl)) ?_
  refine zd_ac (ok_iconst (l := l) (B := B) (y := m_La_law) (pc := 888) (n := (3)) (zd_dr dc_La_11 36 rfl) rfl) ?_
  refine zd_ac (ok_iadd (l := l) (B := B) (y := m_La_law) (pc := 889) (zd_dr dc_La_11 37 rfl)) ?_
  refine zd_ac (ok_iaload (l := l) (B := B) (y := m_La_law) (pc := 890) hG (zd_dr dc_La_11 38 rfl)) ?_
  refine zd_ac (ok_aload_n (l := l) (B := B) (y := m_La_law) (pc := 891) (k := 0) rfl (zd_dr dc_La_11 39 rfl)) ?_
  refine zd_ac (ok_iload (l := l) (B := B) (y := m_La_law) (pc := 892) (zd_dr dc_La_11 40 rfl)) ?_
  refine zd_ac (ok_iconst (l := l) (B := B) (y := m_La_law) (pc := 894) (n := (4)) (zd_dr dc_La_11 41 rfl) rfl) ?_
  refine zd_ac (ok_iadd (l := l) (B := B) (y := m_La_law) (pc := 895) (zd_dr dc_La_11 42 rfl)) ?_
  refine zd_ac (ok_iaload (l := l) (B := B) (y := m_La_law) (pc := 896) hG (zd_dr dc_La_11 43 rfl)) ?_
  refine zd_ac (ok_callv (l := l) (B := B) (y := m_La_law) (pc := 897) hG (ci := 8) rfl cf_La_law_Mo_toScale rfl (List.mem_of_getElem? (i := 1116) (by decide +kernel)) (List.mem_of_getElem? (i := 1117) (by decide +kernel)) (List.mem_of_getElem? (i := 1118) (by decide +kernel)) (zd_dr dc_La_11 44 rfl)) ?_
  refine zd_ac (ok_aload_n (l := l) (B := B) (y := m_La_law) (pc := 900) (k := 2) rfl (zd_dr dc_La_11 45 rfl)) ?_
  refine zd_ac (ok_callv (l := l) (B := B) (y := m_La_law) (pc := 901) hG (ci := 8) rfl cf_La_law_Mo_thrown rfl (List.mem_of_getElem? (i := 947) (by decide +kernel)) (List.mem_of_getElem? (i := 948) (by decide +kernel)) (List.mem_of_getElem? (i := 949) (by decide +kernel)) (zd_dr dc_La_11 46 rfl)) ?_
  refine zd_ac (ok_iload (l := l) (B := B) (y := m_La_law) (pc := 904) (zd_dr dc_La_11 47 rfl)) ?_
  refine zd_ac (ok_icmp_eq (l := l) (B := B) (y := m_La_law) (pc := 906) (zd_dr dc_La_11 48 rfl) (by decide)) ?_
  refine zd_ac (ok_iconst (l := l) (B := B) (y := m_La_law) (pc := 909) (n := (0)) (zd_dr dc_La_11 49 rfl) rfl) ?_
  refine zd_ac (ok_iret (l := l) (B := B) (y := m_La_law) (pc := 910) rfl (zd_dr dc_La_11 50 rfl)) ?_
  refine zd_ac (ok_goto (l := l) (B := B) (y := m_La_law) (pc := 911) (zd_dr dc_La_11 51 rfl) (by decide)) ?_
  exact zd_an
def dl_La_12 : List (Nat × Instr × Nat) := [(914, .aload_n 1, 1), (915, .aload_n 0, 1), (916, .iload 4, 2), (918, .iconst (1), 1), (919, .iadd, 1), (920, .iaload, 1), (921, .aload_n 0, 1), (922, .iload 4, 2), (924, .iconst (2), 1), (925, .iadd, 1), (926, .iaload, 1), (927, .aload_n 0, 1), (928, .iload 4, 2), (930, .iconst (3), 1), (931, .iadd, 1), (932, .iaload, 1), (933, .aload_n 0, 1), (934, .iload 4, 2), (936, .iconst (4), 1), (937, .iadd, 1), (938, .iaload, 1), (939, .invokestatic 133, 3), (942, .istore 5, 2), (944, .aload_n 2, 1), (945, .aload_n 0, 1), (946, .iload 4, 2), (948, .iconst (1), 1), (949, .iadd, 1), (950, .iaload, 1), (951, .aload_n 0, 1), (952, .iload 4, 2), (954, .iconst (2), 1), (955, .iadd, 1), (956, .iaload, 1), (957, .aload_n 0, 1), (958, .iload 4, 2), (960, .iconst (3), 1), (961, .iadd, 1), (962, .iaload, 1), (963, .aload_n 0, 1), (964, .iload 4, 2), (966, .iconst (4), 1), (967, .iadd, 1), (968, .iaload, 1), (969, .invokevirtual 135, 3), (972, .aload_n 2, 1), (973, .invokevirtual 98, 3), (976, .iload 5, 2), (978, .if_icmp .eq (5), 3), (981, .iconst (0), 1), (982, .ireturn, 1), (983, .goto (388), 3)]
theorem dc_La_12 : ∀ q ∈ dl_La_12, decode (zd_yb m_La_law) q.1 = .ok q.2 := by decide +kernel
def cd_La_12 (l : Launch) (B : zd_B) : List (Nat × zd_S) := [(914, oc_aload 1 915), (915, oc_aload 0 916), (916, oc_iload 4 918), (918, oc_ci (1) 919), (919, oc_iadd 920), (920, oc_iaload B 921), (921, oc_aload 0 922), (922, oc_iload 4 924), (924, oc_ci (2) 925), (925, oc_iadd 926), (926, oc_iaload B 927), (927, oc_aload 0 928), (928, oc_iload 4 930), (930, oc_ci (3) 931), (931, oc_iadd 932), (932, oc_iaload B 933), (933, oc_aload 0 934), (934, oc_iload 4 936), (936, oc_ci (4) 937), (937, oc_iadd 938), (938, oc_iaload B 939), (939, oc_calls l B m_La_round 5 942), (942, oc_istore 5 944), (944, oc_aload 2 945), (945, oc_aload 0 946), (946, oc_iload 4 948), (948, oc_ci (1) 949), (949, oc_iadd 950), (950, oc_iaload B 951), (951, oc_aload 0 952), (952, oc_iload 4 954), (954, oc_ci (2) 955), (955, oc_iadd 956), (956, oc_iaload B 957), (957, oc_aload 0 958), (958, oc_iload 4 960), (960, oc_ci (3) 961), (961, oc_iadd 962), (962, oc_iaload B 963), (963, oc_aload 0 964), (964, oc_iload 4 966), (966, oc_ci (4) 967), (967, oc_iadd 968), (968, oc_iaload B 969), (969, oc_callv l B 8 m_Mo_round 4 972), (972, oc_aload 2 973), (973, oc_callv l B 8 m_Mo_thrown 0 976), (976, oc_iload 5 978), (978, oc_icmp_eq 983 981), (981, oc_ci (0) 982), (982, oc_iret .boolean), (983, oc_goto 1371)]
set_option maxRecDepth 20000 in
theorem ok_La_12 {l : Launch} {B : zd_B} (hG : zd_G B) (hl : l.stackTraces = false) : ∀ q ∈ cd_La_12 l B, zd_ok l B m_La_law q.1 q.2 := by
  unfold cd_La_12
  refine zd_ac (ok_aload_n (l := l) (B := B) (y := m_La_law) (pc := 914) (k := 1) rfl (zd_dr dc_La_12 0 rfl)) ?_
  refine zd_ac (ok_aload_n (l := l) (B := B) (y := m_La_law) (pc := 915) (k := 0) rfl (zd_dr dc_La_12 1 rfl)) ?_
  refine zd_ac (ok_iload (l := l) (B := B) (y := m_La_law) (pc := 916) (zd_dr dc_La_12 2 rfl)) ?_
  refine zd_ac (ok_iconst (l := l) (B := B) (y := m_La_law) (pc := 918) (n := (1)) (zd_dr dc_La_12 3 rfl) rfl) ?_
  refine zd_ac (ok_iadd (l := l) (B := B) (y := m_La_law) (pc := 919) (zd_dr dc_La_12 4 rfl)) ?_
  refine zd_ac (ok_iaload (l := l) (B := B) (y := m_La_law) (pc := 920) hG (zd_dr dc_La_12 5 rfl)) ?_
  refine zd_ac (ok_aload_n (l := l) (B := B) (y := m_La_law) (pc := 921) (k := 0) rfl (zd_dr dc_La_12 6 rfl)) ?_
  refine zd_ac (ok_iload (l := l) (B := B) (y := m_La_law) (pc := 922) (zd_dr dc_La_12 7 rfl)) ?_
  refine zd_ac (ok_iconst (l := l) (B := B) (y := m_La_law) (pc := 924) (n := (2)) (zd_dr dc_La_12 8 rfl) rfl) ?_
  refine zd_ac (ok_iadd (l := l) (B := B) (y := m_La_law) (pc := 925) (zd_dr dc_La_12 9 rfl)) ?_
  refine zd_ac (ok_iaload (l := l) (B := B) (y := m_La_law) (pc := 926) hG (zd_dr dc_La_12 10 rfl)) ?_
  refine zd_ac (ok_aload_n (l := l) (B := B) (y := m_La_law) (pc := 927) (k := 0) rfl (zd_dr dc_La_12 11 rfl)) ?_
  refine zd_ac (ok_iload (l := l) (B := B) (y := m_La_law) (pc := 928) (zd_dr dc_La_12 12 rfl)) ?_
  refine zd_ac (ok_iconst (l := l) (B := B) (y := m_La_law) (pc := 930) (n := (3)) (zd_dr dc_La_12 13 rfl) rfl) ?_
  refine zd_ac (ok_iadd (l := l) (B := B) (y := m_La_law) (pc := 931) (zd_dr dc_La_12 14 rfl)) ?_
  refine zd_ac (ok_iaload (l := l) (B := B) (y := m_La_law) (pc := 932) hG (zd_dr dc_La_12 15 rfl)) ?_
  refine zd_ac (ok_aload_n (l := l) (B := B) (y := m_La_law) (pc := 933) (k := 0) rfl (zd_dr dc_La_12 16 rfl)) ?_
  refine zd_ac (ok_iload (l := l) (B := B) (y := m_La_law) (pc := 934) (zd_dr dc_La_12 17 rfl)) ?_
  refine zd_ac (ok_iconst (l := l) (B := B) (y := m_La_law) (pc := 936) (n := (4)) (zd_dr dc_La_12 18 rfl) rfl) ?_
  refine zd_ac (ok_iadd (l := l) (B := B) (y := m_La_law) (pc := 937) (zd_dr dc_La_12 19 rfl)) ?_
  refine zd_ac (ok_iaload (l := l) (B := B) (y := m_La_law) (pc := 938) hG (zd_dr dc_La_12 20 rfl)) ?_
  refine zd_ac (ok_calls (l := l) (B := B) (y := m_La_law) (pc := 939) hG cf_La_law_La_round rfl (List.mem_of_getElem? (i := 751) (by decide +kernel)) (List.mem_of_getElem? (i := 752) (by decide +kernel)) (List.mem_of_getElem? (i := 55) (by decide +kernel)) (zd_dr dc_La_12 21 rfl)) ?_
  refine zd_ac (ok_istore (l := l) (B := B) (y := m_La_law) (pc := 942) (zd_dr dc_La_12 22 rfl) (by decide)) ?_
  refine zd_ac (ok_aload_n (l := l) (B := B) (y := m_La_law) (pc := 944) (k := 2) rfl (zd_dr dc_La_12 23 rfl)) ?_
  refine zd_ac (ok_aload_n (l := l) (B := B) (y := m_La_law) (pc := 945) (k := 0) rfl (zd_dr dc_La_12 24 rfl)) ?_
  refine zd_ac (ok_iload (l := l) (B := B) (y := m_La_law) (pc := 946) (zd_dr dc_La_12 25 rfl)) ?_
  refine zd_ac (ok_iconst (l := l) (B := B) (y := m_La_law) (pc := 948) (n := (1)) (zd_dr dc_La_12 26 rfl) rfl) ?_
  refine zd_ac (ok_iadd (l := l) (B := B) (y := m_La_law) (pc := 949) (zd_dr dc_La_12 27 rfl)) ?_
  refine zd_ac (ok_iaload (l := l) (B := B) (y := m_La_law) (pc := 950) hG (zd_dr dc_La_12 28 rfl)) ?_
  refine zd_ac (ok_aload_n (l := l) (B := B) (y := m_La_law) (pc := 951) (k := 0) rfl (zd_dr dc_La_12 29 rfl)) ?_
  refine zd_ac (ok_iload (l := l) (B := B) (y := m_La_law) (pc := 952) (zd_dr dc_La_12 30 rfl)) ?_
  refine zd_ac (ok_iconst (l := l) (B := B) (y := m_La_law) (pc := 954) (n := (2)) (zd_dr dc_La_12 31 rfl) rfl) ?_
  refine zd_ac (ok_iadd (l := l) (B := B) (y := m_La_law) (pc := 955) (zd_dr dc_La_12 32 rfl)) ?_
  refine zd_ac (ok_iaload (l := l) (B := B) (y := m_La_law) (pc := 956) hG (zd_dr dc_La_12 33 rfl)) ?_
  refine zd_ac (ok_aload_n (l := l) (B := B) (y := m_La_law) (pc := 957) (k := 0) rfl (zd_dr dc_La_12 34 rfl)) ?_
  refine zd_ac (ok_iload (l := l) (B := B) (y := m_La_law) (pc := 958) (zd_dr dc_La_12 35 rfl)) ?_
  refine zd_ac (ok_iconst (l := l) (B := B) (y := m_La_law) (pc := 960) (n := (3)) (zd_dr dc_La_12 36 rfl) rfl) ?_
  refine zd_ac (ok_iadd (l := l) (B := B) (y := m_La_law) (pc := 961) (zd_dr dc_La_12 37 rfl)) ?_
  refine zd_ac (ok_iaload (l := l) (B := B) (y := m_La_law) (pc := 962) hG (zd_dr dc_La_12 38 rfl)) ?_
  refine zd_ac (ok_aload_n (l := l) (B := B) (y := m_La_law) (pc := 963) (k := 0) rfl (zd_dr dc_La_12 39 rfl)) ?_
  refine zd_ac (ok_iload (l := l) (B := B) (y := m_La_law) (pc := 964) (zd_dr dc_La_12 40 rfl)) ?_
  refine zd_ac (ok_iconst (l := l) (B := B) (y := m_La_law) (pc := 966) (n := (4)) (zd_dr dc_La_12 41 rfl) rfl) ?_
  refine zd_ac (ok_iadd (l := l) (B := B) (y := m_La_law) (pc := 967) (zd_dr dc_La_12 42 rfl)) ?_
  refine zd_ac (ok_iaload (l := l) (B := B) (y := m_La_law) (pc := 968) hG (zd_dr dc_La_12 43 rfl)) ?_
  refine zd_ac (ok_callv (l := l) (B := B) (y := m_La_law) (pc := 969) hG (ci := 8) rfl cf_La_law_Mo_round rfl (List.mem_of_getElem? (i := 1120) (by decide +kernel)) (List.mem_of_getElem? (i := 1121) (by decide +kernel)) (List.mem_of_getElem? (i := 1122) (by decide +kernel)) (zd_dr dc_La_12 44 rfl)) ?_
  refine zd_ac (ok_aload_n (l := l) (B := B) (y := m_La_law) (pc := 972) (k := 2) rfl (zd_dr dc_La_12 45 rfl)) ?_
  refine zd_ac (ok_callv (l := l) (B := B) (y := m_La_law) (pc := 973) hG (ci := 8) rfl cf_La_law_Mo_thrown rfl (List.mem_of_getElem? (i := 947) (by decide +kernel)) (List.mem_of_getElem? (i := 948) (by decide +kernel)) (List.mem_of_getElem? (i := 949) (by decide +kernel)) (zd_dr dc_La_12 46 rfl)) ?_
  refine zd_ac (ok_iload (l := l) (B := B) (y := m_La_law) (pc := 976) (zd_dr dc_La_12 47 rfl)) ?_
  refine zd_ac (ok_icmp_eq (l := l) (B := B) (y := m_La_law) (pc := 978) (zd_dr dc_La_12 48 rfl) (by decide)) ?_
  refine zd_ac (ok_iconst (l := l) (B := B) (y := m_La_law) (pc := 981) (n := (0)) (zd_dr dc_La_12 49 rfl) rfl) ?_
  refine zd_ac (ok_iret (l := l) (B := B) (y := m_La_law) (pc := 982) rfl (zd_dr dc_La_12 50 rfl)) ?_
  refine zd_ac (ok_goto (l := l) (B := B) (y := m_La_law) (pc := 983) (zd_dr dc_La_12 51 rfl) (by decide)) ?_
  exact zd_an
def dl_La_13 : List (Nat × Instr × Nat) := [(986, .aload_n 1, 1), (987, .aload_n 0, 1), (988, .iload 4, 2), (990, .iconst (1), 1), (991, .iadd, 1), (992, .iaload, 1), (993, .aload_n 0, 1), (994, .iload 4, 2), (996, .iconst (2), 1), (997, .iadd, 1), (998, .iaload, 1), (999, .invokestatic 136, 3), (1002, .istore 5, 2), (1004, .aload_n 2, 1), (1005, .aload_n 0, 1), (1006, .iload 4, 2), (1008, .iconst (1), 1), (1009, .iadd, 1), (1010, .iaload, 1), (1011, .aload_n 0, 1), (1012, .iload 4, 2), (1014, .iconst (2), 1), (1015, .iadd, 1), (1016, .iaload, 1), (1017, .invokevirtual 139, 3), (1020, .aload_n 2, 1), (1021, .invokevirtual 98, 3), (1024, .iload 5, 2), (1026, .if_icmp .eq (5), 3), (1029, .iconst (0), 1), (1030, .ireturn, 1), (1031, .goto (340), 3)]
theorem dc_La_13 : ∀ q ∈ dl_La_13, decode (zd_yb m_La_law) q.1 = .ok q.2 := by decide +kernel
def cd_La_13 (l : Launch) (B : zd_B) : List (Nat × zd_S) := [(986, oc_aload 1 987), (987, oc_aload 0 988), (988, oc_iload 4 990), (990, oc_ci (1) 991), (991, oc_iadd 992), (992, oc_iaload B 993), (993, oc_aload 0 994), (994, oc_iload 4 996), (996, oc_ci (2) 997), (997, oc_iadd 998), (998, oc_iaload B 999), (999, oc_calls l B m_La_strip 3 1002), (1002, oc_istore 5 1004), (1004, oc_aload 2 1005), (1005, oc_aload 0 1006), (1006, oc_iload 4 1008), (1008, oc_ci (1) 1009), (1009, oc_iadd 1010), (1010, oc_iaload B 1011), (1011, oc_aload 0 1012), (1012, oc_iload 4 1014), (1014, oc_ci (2) 1015), (1015, oc_iadd 1016), (1016, oc_iaload B 1017), (1017, oc_callv l B 8 m_Mo_strip 2 1020), (1020, oc_aload 2 1021), (1021, oc_callv l B 8 m_Mo_thrown 0 1024), (1024, oc_iload 5 1026), (1026, oc_icmp_eq 1031 1029), (1029, oc_ci (0) 1030), (1030, oc_iret .boolean), (1031, oc_goto 1371)]
set_option maxRecDepth 20000 in
theorem ok_La_13 {l : Launch} {B : zd_B} (hG : zd_G B) (hl : l.stackTraces = false) : ∀ q ∈ cd_La_13 l B, zd_ok l B m_La_law q.1 q.2 := by
  unfold cd_La_13
  refine zd_ac (ok_aload_n (l := l) (B := B) (y := m_La_law) (pc := 986) (k := 1) rfl (zd_dr dc_La_13 0 rfl)) ?_
  refine zd_ac (ok_aload_n (l := l) (B := B) (y := m_La_law) (pc := 987) (k := 0) rfl (zd_dr dc_La_13 1 rfl)) ?_
  refine zd_ac (ok_iload (l := l) (B := B) (y := m_La_law) (pc := 988) (zd_dr dc_La_13 2 rfl)) ?_
  refine zd_ac (ok_iconst (l := l) (B := B) (y := m_La_law) (pc := 990) (n := (1)) (zd_dr dc_La_13 3 rfl) rfl) ?_
  refine zd_ac (ok_iadd (l := l) (B := B) (y := m_La_law) (pc := 991) (zd_dr dc_La_13 4 rfl)) ?_
  refine zd_ac (ok_iaload (l := l) (B := B) (y := m_La_law) (pc := 992) hG (zd_dr dc_La_13 5 rfl)) ?_
  refine zd_ac (ok_aload_n (l := l) (B := B) (y := m_La_law) (pc := 993) (k := 0) rfl (zd_dr dc_La_13 6 rfl)) ?_
  refine zd_ac (ok_iload (l := l) (B := B) (y := m_La_law) (pc := 994) (zd_dr dc_La_13 7 rfl)) ?_
  refine zd_ac (ok_iconst (l := l) (B := B) (y := m_La_law) (pc := 996) (n := (2)) (zd_dr dc_La_13 8 rfl) rfl) ?_
  refine zd_ac (ok_iadd (l := l) (B := B) (y := m_La_law) (pc := 997) (zd_dr dc_La_13 9 rfl)) ?_
  refine zd_ac (ok_iaload (l := l) (B := B) (y := m_La_law) (pc := 998) hG (zd_dr dc_La_13 10 rfl)) ?_
  refine zd_ac (ok_calls (l := l) (B := B) (y := m_La_law) (pc := 999) hG cf_La_law_La_strip rfl (List.mem_of_getElem? (i := 758) (by decide +kernel)) (List.mem_of_getElem? (i := 759) (by decide +kernel)) (List.mem_of_getElem? (i := 55) (by decide +kernel)) (zd_dr dc_La_13 11 rfl)) ?_
  refine zd_ac (ok_istore (l := l) (B := B) (y := m_La_law) (pc := 1002) (zd_dr dc_La_13 12 rfl) (by decide)) ?_
  refine zd_ac (ok_aload_n (l := l) (B := B) (y := m_La_law) (pc := 1004) (k := 2) rfl (zd_dr dc_La_13 13 rfl)) ?_
  refine zd_ac (ok_aload_n (l := l) (B := B) (y := m_La_law) (pc := 1005) (k := 0) rfl (zd_dr dc_La_13 14 rfl)) ?_
  refine zd_ac (ok_iload (l := l) (B := B) (y := m_La_law) (pc := 1006) (zd_dr dc_La_13 15 rfl)) ?_
  refine zd_ac (ok_iconst (l := l) (B := B) (y := m_La_law) (pc := 1008) (n := (1)) (zd_dr dc_La_13 16 rfl) rfl) ?_
  refine zd_ac (ok_iadd (l := l) (B := B) (y := m_La_law) (pc := 1009) (zd_dr dc_La_13 17 rfl)) ?_
  refine zd_ac (ok_iaload (l := l) (B := B) (y := m_La_law) (pc := 1010) hG (zd_dr dc_La_13 18 rfl)) ?_
  refine zd_ac (ok_aload_n (l := l) (B := B) (y := m_La_law) (pc := 1011) (k := 0) rfl (zd_dr dc_La_13 19 rfl)) ?_
  refine zd_ac (ok_iload (l := l) (B := B) (y := m_La_law) (pc := 1012) (zd_dr dc_La_13 20 rfl)) ?_
  refine zd_ac (ok_iconst (l := l) (B := B) (y := m_La_law) (pc := 1014) (n := (2)) (zd_dr dc_La_13 21 rfl) rfl) ?_
  refine zd_ac (ok_iadd (l := l) (B := B) (y := m_La_law) (pc := 1015) (zd_dr dc_La_13 22 rfl)) ?_
  refine zd_ac (ok_iaload (l := l) (B := B) (y := m_La_law) (pc := 1016) hG (zd_dr dc_La_13 23 rfl)) ?_
  refine zd_ac (ok_callv (l := l) (B := B) (y := m_La_law) (pc := 1017) hG (ci := 8) rfl cf_La_law_Mo_strip rfl (List.mem_of_getElem? (i := 1124) (by decide +kernel)) (List.mem_of_getElem? (i := 1125) (by decide +kernel)) (List.mem_of_getElem? (i := 1126) (by decide +kernel)) (zd_dr dc_La_13 24 rfl)) ?_
  refine zd_ac (ok_aload_n (l := l) (B := B) (y := m_La_law) (pc := 1020) (k := 2) rfl (zd_dr dc_La_13 25 rfl)) ?_
  refine zd_ac (ok_callv (l := l) (B := B) (y := m_La_law) (pc := 1021) hG (ci := 8) rfl cf_La_law_Mo_thrown rfl (List.mem_of_getElem? (i := 947) (by decide +kernel)) (List.mem_of_getElem? (i := 948) (by decide +kernel)) (List.mem_of_getElem? (i := 949) (by decide +kernel)) (zd_dr dc_La_13 26 rfl)) ?_
  refine zd_ac (ok_iload (l := l) (B := B) (y := m_La_law) (pc := 1024) (zd_dr dc_La_13 27 rfl)) ?_
  refine zd_ac (ok_icmp_eq (l := l) (B := B) (y := m_La_law) (pc := 1026) (zd_dr dc_La_13 28 rfl) (by decide)) ?_
  refine zd_ac (ok_iconst (l := l) (B := B) (y := m_La_law) (pc := 1029) (n := (0)) (zd_dr dc_La_13 29 rfl) rfl) ?_
  refine zd_ac (ok_iret (l := l) (B := B) (y := m_La_law) (pc := 1030) rfl (zd_dr dc_La_13 30 rfl)) ?_
  refine zd_ac (ok_goto (l := l) (B := B) (y := m_La_law) (pc := 1031) (zd_dr dc_La_13 31 rfl) (by decide)) ?_
  exact zd_an
def dl_La_14 : List (Nat × Instr × Nat) := [(1034, .aload_n 1, 1), (1035, .aload_n 0, 1), (1036, .iload 4, 2), (1038, .iconst (1), 1), (1039, .iadd, 1), (1040, .iaload, 1), (1041, .aload_n 0, 1), (1042, .iload 4, 2), (1044, .iconst (2), 1), (1045, .iadd, 1), (1046, .iaload, 1), (1047, .aload_n 0, 1), (1048, .iload 4, 2), (1050, .iconst (3), 1), (1051, .iadd, 1), (1052, .iaload, 1), (1053, .invokestatic 140, 3), (1056, .istore 5, 2), (1058, .aload_n 2, 1), (1059, .aload_n 0, 1), (1060, .iload 4, 2), (1062, .iconst (1), 1), (1063, .iadd, 1), (1064, .iaload, 1), (1065, .aload_n 0, 1), (1066, .iload 4, 2), (1068, .iconst (2), 1), (1069, .iadd, 1), (1070, .iaload, 1), (1071, .aload_n 0, 1), (1072, .iload 4, 2), (1074, .iconst (3), 1), (1075, .iadd, 1), (1076, .iaload, 1), (1077, .invokevirtual 142, 3), (1080, .aload_n 2, 1), (1081, .invokevirtual 98, 3), (1084, .iload 5, 2), (1086, .if_icmp .eq (5), 3), (1089, .iconst (0), 1), (1090, .ireturn, 1), (1091, .goto (280), 3)]
theorem dc_La_14 : ∀ q ∈ dl_La_14, decode (zd_yb m_La_law) q.1 = .ok q.2 := by decide +kernel
def cd_La_14 (l : Launch) (B : zd_B) : List (Nat × zd_S) := [(1034, oc_aload 1 1035), (1035, oc_aload 0 1036), (1036, oc_iload 4 1038), (1038, oc_ci (1) 1039), (1039, oc_iadd 1040), (1040, oc_iaload B 1041), (1041, oc_aload 0 1042), (1042, oc_iload 4 1044), (1044, oc_ci (2) 1045), (1045, oc_iadd 1046), (1046, oc_iaload B 1047), (1047, oc_aload 0 1048), (1048, oc_iload 4 1050), (1050, oc_ci (3) 1051), (1051, oc_iadd 1052), (1052, oc_iaload B 1053), (1053, oc_calls l B m_La_shift 4 1056), (1056, oc_istore 5 1058), (1058, oc_aload 2 1059), (1059, oc_aload 0 1060), (1060, oc_iload 4 1062), (1062, oc_ci (1) 1063), (1063, oc_iadd 1064), (1064, oc_iaload B 1065), (1065, oc_aload 0 1066), (1066, oc_iload 4 1068), (1068, oc_ci (2) 1069), (1069, oc_iadd 1070), (1070, oc_iaload B 1071), (1071, oc_aload 0 1072), (1072, oc_iload 4 1074), (1074, oc_ci (3) 1075), (1075, oc_iadd 1076), (1076, oc_iaload B 1077), (1077, oc_callv l B 8 m_Mo_shift 3 1080), (1080, oc_aload 2 1081), (1081, oc_callv l B 8 m_Mo_thrown 0 1084), (1084, oc_iload 5 1086), (1086, oc_icmp_eq 1091 1089), (1089, oc_ci (0) 1090), (1090, oc_iret .boolean), (1091, oc_goto 1371)]
set_option maxRecDepth 20000 in
theorem ok_La_14 {l : Launch} {B : zd_B} (hG : zd_G B) (hl : l.stackTraces = false) : ∀ q ∈ cd_La_14 l B, zd_ok l B m_La_law q.1 q.2 := by
  unfold cd_La_14
  refine zd_ac (ok_aload_n (l := l) (B := B) (y := m_La_law) (pc := 1034) (k := 1) rfl (zd_dr dc_La_14 0 rfl)) ?_
  refine zd_ac (ok_aload_n (l := l) (B := B) (y := m_La_law) (pc := 1035) (k := 0) rfl (zd_dr dc_La_14 1 rfl)) ?_
  refine zd_ac (ok_iload (l := l) (B := B) (y := m_La_law) (pc := 1036) (zd_dr dc_La_14 2 rfl)) ?_
  refine zd_ac (ok_iconst (l := l) (B := B) (y := m_La_law) (pc := 1038) (n := (1)) (zd_dr dc_La_14 3 rfl) rfl) ?_
  refine zd_ac (ok_iadd (l := l) (B := B) (y := m_La_law) (pc := 1039) (zd_dr dc_La_14 4 rfl)) ?_
  refine zd_ac (ok_iaload (l := l) (B := B) (y := m_La_law) (pc := 1040) hG (zd_dr dc_La_14 5 rfl)) ?_
  refine zd_ac (ok_aload_n (l := l) (B := B) (y := m_La_law) (pc := 1041) (k := 0) rfl (zd_dr dc_La_14 6 rfl)) ?_
  refine zd_ac (ok_iload (l := l) (B := B) (y := m_La_law) (pc := 1042) (zd_dr dc_La_14 7 rfl)) ?_
  refine zd_ac (ok_iconst (l := l) (B := B) (y := m_La_law) (pc := 1044) (n := (2)) (zd_dr dc_La_14 8 rfl) rfl) ?_
  refine zd_ac (ok_iadd (l := l) (B := B) (y := m_La_law) (pc := 1045) (zd_dr dc_La_14 9 rfl)) ?_
  refine zd_ac (ok_iaload (l := l) (B := B) (y := m_La_law) (pc := 1046) hG (zd_dr dc_La_14 10 rfl)) ?_
  refine zd_ac (ok_aload_n (l := l) (B := B) (y := m_La_law) (pc := 1047) (k := 0) rfl (zd_dr dc_La_14 11 rfl)) ?_
  refine zd_ac (ok_iload (l := l) (B := B) (y := m_La_law) (pc := 1048) (zd_dr dc_La_14 12 rfl)) ?_
  refine zd_ac (ok_iconst (l := l) (B := B) (y := m_La_law) (pc := 1050) (n := (3)) (zd_dr dc_La_14 13 rfl) rfl) ?_
  refine zd_ac (ok_iadd (l := l) (B := B) (y := m_La_law) (pc := 1051) (zd_dr dc_La_14 14 rfl)) ?_
  refine zd_ac (ok_iaload (l := l) (B := B) (y := m_La_law) (pc := 1052) hG (zd_dr dc_La_14 15 rfl)) ?_
  refine zd_ac (ok_calls (l := l) (B := B) (y := m_La_law) (pc := 1053) hG cf_La_law_La_shift rfl (List.mem_of_getElem? (i := 766) (by decide +kernel)) (List.mem_of_getElem? (i := 767) (by decide +kernel)) (List.mem_of_getElem? (i := 55) (by decide +kernel)) (zd_dr dc_La_14 16 rfl)) ?_
  refine zd_ac (ok_istore (l := l) (B := B) (y := m_La_law) (pc := 1056) (zd_dr dc_La_14 17 rfl) (by decide)) ?_
  refine zd_ac (ok_aload_n (l := l) (B := B) (y := m_La_law) (pc := 1058) (k := 2) rfl (zd_dr dc_La_14 18 rfl)) ?_
  refine zd_ac (ok_aload_n (l := l) (B := B) (y := m_La_law) (pc := 1059) (k := 0) rfl (zd_dr dc_La_14 19 rfl)) ?_
  refine zd_ac (ok_iload (l := l) (B := B) (y := m_La_law) (pc := 1060) (zd_dr dc_La_14 20 rfl)) ?_
  refine zd_ac (ok_iconst (l := l) (B := B) (y := m_La_law) (pc := 1062) (n := (1)) (zd_dr dc_La_14 21 rfl) rfl) ?_
  refine zd_ac (ok_iadd (l := l) (B := B) (y := m_La_law) (pc := 1063) (zd_dr dc_La_14 22 rfl)) ?_
  refine zd_ac (ok_iaload (l := l) (B := B) (y := m_La_law) (pc := 1064) hG (zd_dr dc_La_14 23 rfl)) ?_
  refine zd_ac (ok_aload_n (l := l) (B := B) (y := m_La_law) (pc := 1065) (k := 0) rfl (zd_dr dc_La_14 24 rfl)) ?_
  refine zd_ac (ok_iload (l := l) (B := B) (y := m_La_law) (pc := 1066) (zd_dr dc_La_14 25 rfl)) ?_
  refine zd_ac (ok_iconst (l := l) (B := B) (y := m_La_law) (pc := 1068) (n := (2)) (zd_dr dc_La_14 26 rfl) rfl) ?_
  refine zd_ac (ok_iadd (l := l) (B := B) (y := m_La_law) (pc := 1069) (zd_dr dc_La_14 27 rfl)) ?_
  refine zd_ac (ok_iaload (l := l) (B := B) (y := m_La_law) (pc := 1070) hG (zd_dr dc_La_14 28 rfl)) ?_
  refine zd_ac (ok_aload_n (l := l) (B := B) (y := m_La_law) (pc := 1071) (k := 0) rfl (zd_dr dc_La_14 29 rfl)) ?_
  refine zd_ac (ok_iload (l := l) (B := B) (y := m_La_law) (pc := 1072) (zd_dr dc_La_14 30 rfl)) ?_
  refine zd_ac (ok_iconst (l := l) (B := B) (y := m_La_law) (pc := 1074) (n := (3)) (zd_dr dc_La_14 31 rfl) rfl) ?_
  refine zd_ac (ok_iadd (l := l) (B := B) (y := m_La_law) (pc := 1075) (zd_dr dc_La_14 32 rfl)) ?_
  refine zd_ac (ok_iaload (l := l) (B := B) (y := m_La_law) (pc := 1076) hG (zd_dr dc_La_14 33 rfl)) ?_
  refine zd_ac (ok_callv (l := l) (B := B) (y := m_La_law) (pc := 1077) hG (ci := 8) rfl cf_La_law_Mo_shift rfl (List.mem_of_getElem? (i := 1128) (by decide +kernel)) (List.mem_of_getElem? (i := 1129) (by decide +kernel)) (List.mem_of_getElem? (i := 1130) (by decide +kernel)) (zd_dr dc_La_14 34 rfl)) ?_
  refine zd_ac (ok_aload_n (l := l) (B := B) (y := m_La_law) (pc := 1080) (k := 2) rfl (zd_dr dc_La_14 35 rfl)) ?_
  refine zd_ac (ok_callv (l := l) (B := B) (y := m_La_law) (pc := 1081) hG (ci := 8) rfl cf_La_law_Mo_thrown rfl (List.mem_of_getElem? (i := 947) (by decide +kernel)) (List.mem_of_getElem? (i := 948) (by decide +kernel)) (List.mem_of_getElem? (i := 949) (by decide +kernel)) (zd_dr dc_La_14 36 rfl)) ?_
  refine zd_ac (ok_iload (l := l) (B := B) (y := m_La_law) (pc := 1084) (zd_dr dc_La_14 37 rfl)) ?_
  refine zd_ac (ok_icmp_eq (l := l) (B := B) (y := m_La_law) (pc := 1086) (zd_dr dc_La_14 38 rfl) (by decide)) ?_
  refine zd_ac (ok_iconst (l := l) (B := B) (y := m_La_law) (pc := 1089) (n := (0)) (zd_dr dc_La_14 39 rfl) rfl) ?_
  refine zd_ac (ok_iret (l := l) (B := B) (y := m_La_law) (pc := 1090) rfl (zd_dr dc_La_14 40 rfl)) ?_
  refine zd_ac (ok_goto (l := l) (B := B) (y := m_La_law) (pc := 1091) (zd_dr dc_La_14 41 rfl) (by decide)) ?_
  exact zd_an
def dl_La_15 : List (Nat × Instr × Nat) := [(1094, .aload_n 1, 1), (1095, .aload_n 0, 1), (1096, .iload 4, 2), (1098, .iconst (1), 1), (1099, .iadd, 1), (1100, .iaload, 1), (1101, .aload_n 0, 1), (1102, .iload 4, 2), (1104, .iconst (2), 1), (1105, .iadd, 1), (1106, .iaload, 1), (1107, .invokestatic 143, 3), (1110, .istore 5, 2), (1112, .aload_n 2, 1), (1113, .aload_n 0, 1), (1114, .iload 4, 2), (1116, .iconst (1), 1), (1117, .iadd, 1), (1118, .iaload, 1), (1119, .aload_n 0, 1), (1120, .iload 4, 2), (1122, .iconst (2), 1), (1123, .iadd, 1), (1124, .iaload, 1), (1125, .invokevirtual 145, 3), (1128, .aload_n 2, 1), (1129, .invokevirtual 98, 3), (1132, .iload 5, 2), (1134, .if_icmp .eq (5), 3), (1137, .iconst (0), 1), (1138, .ireturn, 1), (1139, .goto (232), 3)]
theorem dc_La_15 : ∀ q ∈ dl_La_15, decode (zd_yb m_La_law) q.1 = .ok q.2 := by decide +kernel
def cd_La_15 (l : Launch) (B : zd_B) : List (Nat × zd_S) := [(1094, oc_aload 1 1095), (1095, oc_aload 0 1096), (1096, oc_iload 4 1098), (1098, oc_ci (1) 1099), (1099, oc_iadd 1100), (1100, oc_iaload B 1101), (1101, oc_aload 0 1102), (1102, oc_iload 4 1104), (1104, oc_ci (2) 1105), (1105, oc_iadd 1106), (1106, oc_iaload B 1107), (1107, oc_calls l B m_La_negate 3 1110), (1110, oc_istore 5 1112), (1112, oc_aload 2 1113), (1113, oc_aload 0 1114), (1114, oc_iload 4 1116), (1116, oc_ci (1) 1117), (1117, oc_iadd 1118), (1118, oc_iaload B 1119), (1119, oc_aload 0 1120), (1120, oc_iload 4 1122), (1122, oc_ci (2) 1123), (1123, oc_iadd 1124), (1124, oc_iaload B 1125), (1125, oc_callv l B 8 m_Mo_negate 2 1128), (1128, oc_aload 2 1129), (1129, oc_callv l B 8 m_Mo_thrown 0 1132), (1132, oc_iload 5 1134), (1134, oc_icmp_eq 1139 1137), (1137, oc_ci (0) 1138), (1138, oc_iret .boolean), (1139, oc_goto 1371)]
set_option maxRecDepth 20000 in
theorem ok_La_15 {l : Launch} {B : zd_B} (hG : zd_G B) (hl : l.stackTraces = false) : ∀ q ∈ cd_La_15 l B, zd_ok l B m_La_law q.1 q.2 := by
  unfold cd_La_15
  refine zd_ac (ok_aload_n (l := l) (B := B) (y := m_La_law) (pc := 1094) (k := 1) rfl (zd_dr dc_La_15 0 rfl)) ?_
  refine zd_ac (ok_aload_n (l := l) (B := B) (y := m_La_law) (pc := 1095) (k := 0) rfl (zd_dr dc_La_15 1 rfl)) ?_
  refine zd_ac (ok_iload (l := l) (B := B) (y := m_La_law) (pc := 1096) (zd_dr dc_La_15 2 rfl)) ?_
  refine zd_ac (ok_iconst (l := l) (B := B) (y := m_La_law) (pc := 1098) (n := (1)) (zd_dr dc_La_15 3 rfl) rfl) ?_
  refine zd_ac (ok_iadd (l := l) (B := B) (y := m_La_law) (pc := 1099) (zd_dr dc_La_15 4 rfl)) ?_
  refine zd_ac (ok_iaload (l := l) (B := B) (y := m_La_law) (pc := 1100) hG (zd_dr dc_La_15 5 rfl)) ?_
  refine zd_ac (ok_aload_n (l := l) (B := B) (y := m_La_law) (pc := 1101) (k := 0) rfl (zd_dr dc_La_15 6 rfl)) ?_
  refine zd_ac (ok_iload (l := l) (B := B) (y := m_La_law) (pc := 1102) (zd_dr dc_La_15 7 rfl)) ?_
  refine zd_ac (ok_iconst (l := l) (B := B) (y := m_La_law) (pc := 1104) (n := (2)) (zd_dr dc_La_15 8 rfl) rfl) ?_
  refine zd_ac (ok_iadd (l := l) (B := B) (y := m_La_law) (pc := 1105) (zd_dr dc_La_15 9 rfl)) ?_
  refine zd_ac (ok_iaload (l := l) (B := B) (y := m_La_law) (pc := 1106) hG (zd_dr dc_La_15 10 rfl)) ?_
  refine zd_ac (ok_calls (l := l) (B := B) (y := m_La_law) (pc := 1107) hG cf_La_law_La_negate rfl (List.mem_of_getElem? (i := 773) (by decide +kernel)) (List.mem_of_getElem? (i := 774) (by decide +kernel)) (List.mem_of_getElem? (i := 55) (by decide +kernel)) (zd_dr dc_La_15 11 rfl)) ?_
  refine zd_ac (ok_istore (l := l) (B := B) (y := m_La_law) (pc := 1110) (zd_dr dc_La_15 12 rfl) (by decide)) ?_
  refine zd_ac (ok_aload_n (l := l) (B := B) (y := m_La_law) (pc := 1112) (k := 2) rfl (zd_dr dc_La_15 13 rfl)) ?_
  refine zd_ac (ok_aload_n (l := l) (B := B) (y := m_La_law) (pc := 1113) (k := 0) rfl (zd_dr dc_La_15 14 rfl)) ?_
  refine zd_ac (ok_iload (l := l) (B := B) (y := m_La_law) (pc := 1114) (zd_dr dc_La_15 15 rfl)) ?_
  refine zd_ac (ok_iconst (l := l) (B := B) (y := m_La_law) (pc := 1116) (n := (1)) (zd_dr dc_La_15 16 rfl) rfl) ?_
  refine zd_ac (ok_iadd (l := l) (B := B) (y := m_La_law) (pc := 1117) (zd_dr dc_La_15 17 rfl)) ?_
  refine zd_ac (ok_iaload (l := l) (B := B) (y := m_La_law) (pc := 1118) hG (zd_dr dc_La_15 18 rfl)) ?_
  refine zd_ac (ok_aload_n (l := l) (B := B) (y := m_La_law) (pc := 1119) (k := 0) rfl (zd_dr dc_La_15 19 rfl)) ?_
  refine zd_ac (ok_iload (l := l) (B := B) (y := m_La_law) (pc := 1120) (zd_dr dc_La_15 20 rfl)) ?_
  refine zd_ac (ok_iconst (l := l) (B := B) (y := m_La_law) (pc := 1122) (n := (2)) (zd_dr dc_La_15 21 rfl) rfl) ?_
  refine zd_ac (ok_iadd (l := l) (B := B) (y := m_La_law) (pc := 1123) (zd_dr dc_La_15 22 rfl)) ?_
  refine zd_ac (ok_iaload (l := l) (B := B) (y := m_La_law) (pc := 1124) hG (zd_dr dc_La_15 23 rfl)) ?_
  refine zd_ac (ok_callv (l := l) (B := B) (y := m_La_law) (pc := 1125) hG (ci := 8) rfl cf_La_law_Mo_negate rfl (List.mem_of_getElem? (i := 1132) (by decide +kernel)) (List.mem_of_getElem? (i := 1133) (by decide +kernel)) (List.mem_of_getElem? (i := 1134) (by decide +kernel)) (zd_dr dc_La_15 24 rfl)) ?_
  refine zd_ac (ok_aload_n (l := l) (B := B) (y := m_La_law) (pc := 1128) (k := 2) rfl (zd_dr dc_La_15 25 rfl)) ?_
  refine zd_ac (ok_callv (l := l) (B := B) (y := m_La_law) (pc := 1129) hG (ci := 8) rfl cf_La_law_Mo_thrown rfl (List.mem_of_getElem? (i := 947) (by decide +kernel)) (List.mem_of_getElem? (i := 948) (by decide +kernel)) (List.mem_of_getElem? (i := 949) (by decide +kernel)) (zd_dr dc_La_15 26 rfl)) ?_
  refine zd_ac (ok_iload (l := l) (B := B) (y := m_La_law) (pc := 1132) (zd_dr dc_La_15 27 rfl)) ?_
  refine zd_ac (ok_icmp_eq (l := l) (B := B) (y := m_La_law) (pc := 1134) (zd_dr dc_La_15 28 rfl) (by decide)) ?_
  refine zd_ac (ok_iconst (l := l) (B := B) (y := m_La_law) (pc := 1137) (n := (0)) (zd_dr dc_La_15 29 rfl) rfl) ?_
  refine zd_ac (ok_iret (l := l) (B := B) (y := m_La_law) (pc := 1138) rfl (zd_dr dc_La_15 30 rfl)) ?_
  refine zd_ac (ok_goto (l := l) (B := B) (y := m_La_law) (pc := 1139) (zd_dr dc_La_15 31 rfl) (by decide)) ?_
  exact zd_an
def dl_La_16 : List (Nat × Instr × Nat) := [(1142, .aload_n 1, 1), (1143, .aload_n 0, 1), (1144, .iload 4, 2), (1146, .iconst (1), 1), (1147, .iadd, 1), (1148, .iaload, 1), (1149, .aload_n 0, 1), (1150, .iload 4, 2), (1152, .iconst (2), 1), (1153, .iadd, 1), (1154, .iaload, 1), (1155, .aload_n 3, 1), (1156, .invokestatic 146, 3), (1159, .istore 5, 2), (1161, .aload_n 2, 1), (1162, .aload_n 0, 1), (1163, .iload 4, 2), (1165, .iconst (1), 1), (1166, .iadd, 1), (1167, .iaload, 1), (1168, .aload_n 0, 1), (1169, .iload 4, 2), (1171, .iconst (2), 1), (1172, .iadd, 1), (1173, .iaload, 1), (1174, .invokevirtual 149, 3), (1177, .istore 6, 2), (1179, .aload_n 2, 1), (1180, .invokevirtual 98, 3), (1183, .iload 5, 2), (1185, .if_icmp .eq (5), 3), (1188, .iconst (0), 1), (1189, .ireturn, 1), (1190, .iload 5, 2), (1192, .ifCond .ne (15), 3), (1195, .aload_n 3, 1), (1196, .iconst (0), 1), (1197, .laload, 1), (1198, .iload 6, 2), (1200, .i2l, 1), (1201, .lcmp, 1), (1202, .ifCond .eq (5), 3), (1205, .iconst (0), 1), (1206, .ireturn, 1), (1207, .goto (164), 3)]
theorem dc_La_16 : ∀ q ∈ dl_La_16, decode (zd_yb m_La_law) q.1 = .ok q.2 := by decide +kernel
def cd_La_16 (l : Launch) (B : zd_B) : List (Nat × zd_S) := [(1142, oc_aload 1 1143), (1143, oc_aload 0 1144), (1144, oc_iload 4 1146), (1146, oc_ci (1) 1147), (1147, oc_iadd 1148), (1148, oc_iaload B 1149), (1149, oc_aload 0 1150), (1150, oc_iload 4 1152), (1152, oc_ci (2) 1153), (1153, oc_iadd 1154), (1154, oc_iaload B 1155), (1155, oc_aload 3 1156), (1156, oc_calls l B m_La_compare 4 1159), (1159, oc_istore 5 1161), (1161, oc_aload 2 1162), (1162, oc_aload 0 1163), (1163, oc_iload 4 1165), (1165, oc_ci (1) 1166), (1166, oc_iadd 1167), (1167, oc_iaload B 1168), (1168, oc_aload 0 1169), (1169, oc_iload 4 1171), (1171, oc_ci (2) 1172), (1172, oc_iadd 1173), (1173, oc_iaload B 1174), (1174, oc_callv l B 8 m_Mo_compare 2 1177), (1177, oc_istore 6 1179), (1179, oc_aload 2 1180), (1180, oc_callv l B 8 m_Mo_thrown 0 1183), (1183, oc_iload 5 1185), (1185, oc_icmp_eq 1190 1188), (1188, oc_ci (0) 1189), (1189, oc_iret .boolean), (1190, oc_iload 5 1192), (1192, oc_if_ne 1207 1195), (1195, oc_aload 3 1196), (1196, oc_ci (0) 1197), (1197, oc_laload B 1198), (1198, oc_iload 6 1200), (1200, oc_i2l 1201), (1201, oc_lcmp 1202), (1202, oc_if_eq 1207 1205), (1205, oc_ci (0) 1206), (1206, oc_iret .boolean), (1207, oc_goto 1371)]
set_option maxRecDepth 20000 in
theorem ok_La_16 {l : Launch} {B : zd_B} (hG : zd_G B) (hl : l.stackTraces = false) : ∀ q ∈ cd_La_16 l B, zd_ok l B m_La_law q.1 q.2 := by
  unfold cd_La_16
  refine zd_ac (ok_aload_n (l := l) (B := B) (y := m_La_law) (pc := 1142) (k := 1) rfl (zd_dr dc_La_16 0 rfl)) ?_
  refine zd_ac (ok_aload_n (l := l) (B := B) (y := m_La_law) (pc := 1143) (k := 0) rfl (zd_dr dc_La_16 1 rfl)) ?_
  refine zd_ac (ok_iload (l := l) (B := B) (y := m_La_law) (pc := 1144) (zd_dr dc_La_16 2 rfl)) ?_
  refine zd_ac (ok_iconst (l := l) (B := B) (y := m_La_law) (pc := 1146) (n := (1)) (zd_dr dc_La_16 3 rfl) rfl) ?_
  refine zd_ac (ok_iadd (l := l) (B := B) (y := m_La_law) (pc := 1147) (zd_dr dc_La_16 4 rfl)) ?_
  refine zd_ac (ok_iaload (l := l) (B := B) (y := m_La_law) (pc := 1148) hG (zd_dr dc_La_16 5 rfl)) ?_
  refine zd_ac (ok_aload_n (l := l) (B := B) (y := m_La_law) (pc := 1149) (k := 0) rfl (zd_dr dc_La_16 6 rfl)) ?_
  refine zd_ac (ok_iload (l := l) (B := B) (y := m_La_law) (pc := 1150) (zd_dr dc_La_16 7 rfl)) ?_
  refine zd_ac (ok_iconst (l := l) (B := B) (y := m_La_law) (pc := 1152) (n := (2)) (zd_dr dc_La_16 8 rfl) rfl) ?_
  refine zd_ac (ok_iadd (l := l) (B := B) (y := m_La_law) (pc := 1153) (zd_dr dc_La_16 9 rfl)) ?_
  refine zd_ac (ok_iaload (l := l) (B := B) (y := m_La_law) (pc := 1154) hG (zd_dr dc_La_16 10 rfl)) ?_
  refine zd_ac (ok_aload_n (l := l) (B := B) (y := m_La_law) (pc := 1155) (k := 3) rfl (zd_dr dc_La_16 11 rfl)) ?_
  refine zd_ac (ok_calls (l := l) (B := B) (y := m_La_law) (pc := 1156) hG cf_La_law_La_compare rfl (List.mem_of_getElem? (i := 780) (by decide +kernel)) (List.mem_of_getElem? (i := 781) (by decide +kernel)) (List.mem_of_getElem? (i := 55) (by decide +kernel)) (zd_dr dc_La_16 12 rfl)) ?_
  refine zd_ac (ok_istore (l := l) (B := B) (y := m_La_law) (pc := 1159) (zd_dr dc_La_16 13 rfl) (by decide)) ?_
  refine zd_ac (ok_aload_n (l := l) (B := B) (y := m_La_law) (pc := 1161) (k := 2) rfl (zd_dr dc_La_16 14 rfl)) ?_
  refine zd_ac (ok_aload_n (l := l) (B := B) (y := m_La_law) (pc := 1162) (k := 0) rfl (zd_dr dc_La_16 15 rfl)) ?_
  refine zd_ac (ok_iload (l := l) (B := B) (y := m_La_law) (pc := 1163) (zd_dr dc_La_16 16 rfl)) ?_
  refine zd_ac (ok_iconst (l := l) (B := B) (y := m_La_law) (pc := 1165) (n := (1)) (zd_dr dc_La_16 17 rfl) rfl) ?_
  refine zd_ac (ok_iadd (l := l) (B := B) (y := m_La_law) (pc := 1166) (zd_dr dc_La_16 18 rfl)) ?_
  refine zd_ac (ok_iaload (l := l) (B := B) (y := m_La_law) (pc := 1167) hG (zd_dr dc_La_16 19 rfl)) ?_
  refine zd_ac (ok_aload_n (l := l) (B := B) (y := m_La_law) (pc := 1168) (k := 0) rfl (zd_dr dc_La_16 20 rfl)) ?_
  refine zd_ac (ok_iload (l := l) (B := B) (y := m_La_law) (pc := 1169) (zd_dr dc_La_16 21 rfl)) ?_
  refine zd_ac (ok_iconst (l := l) (B := B) (y := m_La_law) (pc := 1171) (n := (2)) (zd_dr dc_La_16 22 rfl) rfl) ?_
  refine zd_ac (ok_iadd (l := l) (B := B) (y := m_La_law) (pc := 1172) (zd_dr dc_La_16 23 rfl)) ?_
  refine zd_ac (ok_iaload (l := l) (B := B) (y := m_La_law) (pc := 1173) hG (zd_dr dc_La_16 24 rfl)) ?_
  refine zd_ac (ok_callv (l := l) (B := B) (y := m_La_law) (pc := 1174) hG (ci := 8) rfl cf_La_law_Mo_compare rfl (List.mem_of_getElem? (i := 994) (by decide +kernel)) (List.mem_of_getElem? (i := 995) (by decide +kernel)) (List.mem_of_getElem? (i := 996) (by decide +kernel)) (zd_dr dc_La_16 25 rfl)) ?_
  refine zd_ac (ok_istore (l := l) (B := B) (y := m_La_law) (pc := 1177) (zd_dr dc_La_16 26 rfl) (by decide)) ?_
  refine zd_ac (ok_aload_n (l := l) (B := B) (y := m_La_law) (pc := 1179) (k := 2) rfl (zd_dr dc_La_16 27 rfl)) ?_
  refine zd_ac (ok_callv (l := l) (B := B) (y := m_La_law) (pc := 1180) hG (ci := 8) rfl cf_La_law_Mo_thrown rfl (List.mem_of_getElem? (i := 947) (by decide +kernel)) (List.mem_of_getElem? (i := 948) (by decide +kernel)) (List.mem_of_getElem? (i := 949) (by decide +kernel)) (zd_dr dc_La_16 28 rfl)) ?_
  refine zd_ac (ok_iload (l := l) (B := B) (y := m_La_law) (pc := 1183) (zd_dr dc_La_16 29 rfl)) ?_
  refine zd_ac (ok_icmp_eq (l := l) (B := B) (y := m_La_law) (pc := 1185) (zd_dr dc_La_16 30 rfl) (by decide)) ?_
  refine zd_ac (ok_iconst (l := l) (B := B) (y := m_La_law) (pc := 1188) (n := (0)) (zd_dr dc_La_16 31 rfl) rfl) ?_
  refine zd_ac (ok_iret (l := l) (B := B) (y := m_La_law) (pc := 1189) rfl (zd_dr dc_La_16 32 rfl)) ?_
  refine zd_ac (ok_iload (l := l) (B := B) (y := m_La_law) (pc := 1190) (zd_dr dc_La_16 33 rfl)) ?_
  refine zd_ac (ok_if_ne (l := l) (B := B) (y := m_La_law) (pc := 1192) (zd_dr dc_La_16 34 rfl) (by decide)) ?_
  refine zd_ac (ok_aload_n (l := l) (B := B) (y := m_La_law) (pc := 1195) (k := 3) rfl (zd_dr dc_La_16 35 rfl)) ?_
  refine zd_ac (ok_iconst (l := l) (B := B) (y := m_La_law) (pc := 1196) (n := (0)) (zd_dr dc_La_16 36 rfl) rfl) ?_
  refine zd_ac (ok_laload (l := l) (B := B) (y := m_La_law) (pc := 1197) hG (zd_dr dc_La_16 37 rfl)) ?_
  refine zd_ac (ok_iload (l := l) (B := B) (y := m_La_law) (pc := 1198) (zd_dr dc_La_16 38 rfl)) ?_
  refine zd_ac (ok_i2l (l := l) (B := B) (y := m_La_law) (pc := 1200) (zd_dr dc_La_16 39 rfl)) ?_
  refine zd_ac (ok_lcmp (l := l) (B := B) (y := m_La_law) (pc := 1201) (zd_dr dc_La_16 40 rfl)) ?_
  refine zd_ac (ok_if_eq (l := l) (B := B) (y := m_La_law) (pc := 1202) (zd_dr dc_La_16 41 rfl) (by decide)) ?_
  refine zd_ac (ok_iconst (l := l) (B := B) (y := m_La_law) (pc := 1205) (n := (0)) (zd_dr dc_La_16 42 rfl) rfl) ?_
  refine zd_ac (ok_iret (l := l) (B := B) (y := m_La_law) (pc := 1206) rfl (zd_dr dc_La_16 43 rfl)) ?_
  refine zd_ac (ok_goto (l := l) (B := B) (y := m_La_law) (pc := 1207) (zd_dr dc_La_16 44 rfl) (by decide)) ?_
  exact zd_an
def dl_La_17 : List (Nat × Instr × Nat) := [(1210, .aload_n 1, 1), (1211, .aload_n 0, 1), (1212, .iload 4, 2), (1214, .iconst (1), 1), (1215, .iadd, 1), (1216, .iaload, 1), (1217, .aload_n 0, 1), (1218, .iload 4, 2), (1220, .iconst (2), 1), (1221, .iadd, 1), (1222, .iaload, 1), (1223, .aload_n 3, 1), (1224, .invokestatic 150, 3), (1227, .istore 5, 2), (1229, .aload_n 2, 1), (1230, .aload_n 0, 1), (1231, .iload 4, 2), (1233, .iconst (1), 1), (1234, .iadd, 1), (1235, .iaload, 1), (1236, .aload_n 0, 1), (1237, .iload 4, 2), (1239, .iconst (2), 1), (1240, .iadd, 1), (1241, .iaload, 1), (1242, .invokevirtual 152, 3), (1245, .istore 6, 2), (1247, .aload_n 2, 1), (1248, .invokevirtual 98, 3), (1251, .iload 5, 2), (1253, .if_icmp .eq (5), 3), (1256, .iconst (0), 1), (1257, .ireturn, 1), (1258, .iload 5, 2), (1260, .ifCond .ne (15), 3), (1263, .aload_n 3, 1), (1264, .iconst (0), 1), (1265, .laload, 1), (1266, .iload 6, 2), (1268, .i2l, 1), (1269, .lcmp, 1), (1270, .ifCond .eq (5), 3), (1273, .iconst (0), 1), (1274, .ireturn, 1), (1275, .goto (96), 3)]
theorem dc_La_17 : ∀ q ∈ dl_La_17, decode (zd_yb m_La_law) q.1 = .ok q.2 := by decide +kernel
def cd_La_17 (l : Launch) (B : zd_B) : List (Nat × zd_S) := [(1210, oc_aload 1 1211), (1211, oc_aload 0 1212), (1212, oc_iload 4 1214), (1214, oc_ci (1) 1215), (1215, oc_iadd 1216), (1216, oc_iaload B 1217), (1217, oc_aload 0 1218), (1218, oc_iload 4 1220), (1220, oc_ci (2) 1221), (1221, oc_iadd 1222), (1222, oc_iaload B 1223), (1223, oc_aload 3 1224), (1224, oc_calls l B m_La_told 4 1227), (1227, oc_istore 5 1229), (1229, oc_aload 2 1230), (1230, oc_aload 0 1231), (1231, oc_iload 4 1233), (1233, oc_ci (1) 1234), (1234, oc_iadd 1235), (1235, oc_iaload B 1236), (1236, oc_aload 0 1237), (1237, oc_iload 4 1239), (1239, oc_ci (2) 1240), (1240, oc_iadd 1241), (1241, oc_iaload B 1242), (1242, oc_callv l B 8 m_Mo_told 2 1245), (1245, oc_istore 6 1247), (1247, oc_aload 2 1248), (1248, oc_callv l B 8 m_Mo_thrown 0 1251), (1251, oc_iload 5 1253), (1253, oc_icmp_eq 1258 1256), (1256, oc_ci (0) 1257), (1257, oc_iret .boolean), (1258, oc_iload 5 1260), (1260, oc_if_ne 1275 1263), (1263, oc_aload 3 1264), (1264, oc_ci (0) 1265), (1265, oc_laload B 1266), (1266, oc_iload 6 1268), (1268, oc_i2l 1269), (1269, oc_lcmp 1270), (1270, oc_if_eq 1275 1273), (1273, oc_ci (0) 1274), (1274, oc_iret .boolean), (1275, oc_goto 1371)]
set_option maxRecDepth 20000 in
theorem ok_La_17 {l : Launch} {B : zd_B} (hG : zd_G B) (hl : l.stackTraces = false) : ∀ q ∈ cd_La_17 l B, zd_ok l B m_La_law q.1 q.2 := by
  unfold cd_La_17
  refine zd_ac (ok_aload_n (l := l) (B := B) (y := m_La_law) (pc := 1210) (k := 1) rfl (zd_dr dc_La_17 0 rfl)) ?_
  refine zd_ac (ok_aload_n (l := l) (B := B) (y := m_La_law) (pc := 1211) (k := 0) rfl (zd_dr dc_La_17 1 rfl)) ?_
  refine zd_ac (ok_iload (l := l) (B := B) (y := m_La_law) (pc := 1212) (zd_dr dc_La_17 2 rfl)) ?_
  refine zd_ac (ok_iconst (l := l) (B := B) (y := m_La_law) (pc := 1214) (n := (1)) (zd_dr dc_La_17 3 rfl) rfl) ?_
  refine zd_ac (ok_iadd (l := l) (B := B) (y := m_La_law) (pc := 1215) (zd_dr dc_La_17 4 rfl)) ?_
  refine zd_ac (ok_iaload (l := l) (B := B) (y := m_La_law) (pc := 1216) hG (zd_dr dc_La_17 5 rfl)) ?_
  refine zd_ac (ok_aload_n (l := l) (B := B) (y := m_La_law) (pc := 1217) (k := 0) rfl (zd_dr dc_La_17 6 rfl)) ?_
  refine zd_ac (ok_iload (l := l) (B := B) (y := m_La_law) (pc := 1218) (zd_dr dc_La_17 7 rfl)) ?_
  refine zd_ac (ok_iconst (l := l) (B := B) (y := m_La_law) (pc := 1220) (n := (2)) (zd_dr dc_La_17 8 rfl) rfl) ?_
  refine zd_ac (ok_iadd (l := l) (B := B) (y := m_La_law) (pc := 1221) (zd_dr dc_La_17 9 rfl)) ?_
  refine zd_ac (ok_iaload (l := l) (B := B) (y := m_La_law) (pc := 1222) hG (zd_dr dc_La_17 10 rfl)) ?_
  refine zd_ac (ok_aload_n (l := l) (B := B) (y := m_La_law) (pc := 1223) (k := 3) rfl (zd_dr dc_La_17 11 rfl)) ?_
  refine zd_ac (ok_calls (l := l) (B := B) (y := m_La_law) (pc := 1224) hG cf_La_law_La_told rfl (List.mem_of_getElem? (i := 796) (by decide +kernel)) (List.mem_of_getElem? (i := 797) (by decide +kernel)) (List.mem_of_getElem? (i := 55) (by decide +kernel)) (zd_dr dc_La_17 12 rfl)) ?_
  refine zd_ac (ok_istore (l := l) (B := B) (y := m_La_law) (pc := 1227) (zd_dr dc_La_17 13 rfl) (by decide)) ?_
  refine zd_ac (ok_aload_n (l := l) (B := B) (y := m_La_law) (pc := 1229) (k := 2) rfl (zd_dr dc_La_17 14 rfl)) ?_
  refine zd_ac (ok_aload_n (l := l) (B := B) (y := m_La_law) (pc := 1230) (k := 0) rfl (zd_dr dc_La_17 15 rfl)) ?_
  refine zd_ac (ok_iload (l := l) (B := B) (y := m_La_law) (pc := 1231) (zd_dr dc_La_17 16 rfl)) ?_
  refine zd_ac (ok_iconst (l := l) (B := B) (y := m_La_law) (pc := 1233) (n := (1)) (zd_dr dc_La_17 17 rfl) rfl) ?_
  refine zd_ac (ok_iadd (l := l) (B := B) (y := m_La_law) (pc := 1234) (zd_dr dc_La_17 18 rfl)) ?_
  refine zd_ac (ok_iaload (l := l) (B := B) (y := m_La_law) (pc := 1235) hG (zd_dr dc_La_17 19 rfl)) ?_
  refine zd_ac (ok_aload_n (l := l) (B := B) (y := m_La_law) (pc := 1236) (k := 0) rfl (zd_dr dc_La_17 20 rfl)) ?_
  refine zd_ac (ok_iload (l := l) (B := B) (y := m_La_law) (pc := 1237) (zd_dr dc_La_17 21 rfl)) ?_
  refine zd_ac (ok_iconst (l := l) (B := B) (y := m_La_law) (pc := 1239) (n := (2)) (zd_dr dc_La_17 22 rfl) rfl) ?_
  refine zd_ac (ok_iadd (l := l) (B := B) (y := m_La_law) (pc := 1240) (zd_dr dc_La_17 23 rfl)) ?_
  refine zd_ac (ok_iaload (l := l) (B := B) (y := m_La_law) (pc := 1241) hG (zd_dr dc_La_17 24 rfl)) ?_
  refine zd_ac (ok_callv (l := l) (B := B) (y := m_La_law) (pc := 1242) hG (ci := 8) rfl cf_La_law_Mo_told rfl (List.mem_of_getElem? (i := 1136) (by decide +kernel)) (List.mem_of_getElem? (i := 1137) (by decide +kernel)) (List.mem_of_getElem? (i := 1138) (by decide +kernel)) (zd_dr dc_La_17 25 rfl)) ?_
  refine zd_ac (ok_istore (l := l) (B := B) (y := m_La_law) (pc := 1245) (zd_dr dc_La_17 26 rfl) (by decide)) ?_
  refine zd_ac (ok_aload_n (l := l) (B := B) (y := m_La_law) (pc := 1247) (k := 2) rfl (zd_dr dc_La_17 27 rfl)) ?_
  refine zd_ac (ok_callv (l := l) (B := B) (y := m_La_law) (pc := 1248) hG (ci := 8) rfl cf_La_law_Mo_thrown rfl (List.mem_of_getElem? (i := 947) (by decide +kernel)) (List.mem_of_getElem? (i := 948) (by decide +kernel)) (List.mem_of_getElem? (i := 949) (by decide +kernel)) (zd_dr dc_La_17 28 rfl)) ?_
  refine zd_ac (ok_iload (l := l) (B := B) (y := m_La_law) (pc := 1251) (zd_dr dc_La_17 29 rfl)) ?_
  refine zd_ac (ok_icmp_eq (l := l) (B := B) (y := m_La_law) (pc := 1253) (zd_dr dc_La_17 30 rfl) (by decide)) ?_
  refine zd_ac (ok_iconst (l := l) (B := B) (y := m_La_law) (pc := 1256) (n := (0)) (zd_dr dc_La_17 31 rfl) rfl) ?_
  refine zd_ac (ok_iret (l := l) (B := B) (y := m_La_law) (pc := 1257) rfl (zd_dr dc_La_17 32 rfl)) ?_
  refine zd_ac (ok_iload (l := l) (B := B) (y := m_La_law) (pc := 1258) (zd_dr dc_La_17 33 rfl)) ?_
  refine zd_ac (ok_if_ne (l := l) (B := B) (y := m_La_law) (pc := 1260) (zd_dr dc_La_17 34 rfl) (by decide)) ?_
  refine zd_ac (ok_aload_n (l := l) (B := B) (y := m_La_law) (pc := 1263) (k := 3) rfl (zd_dr dc_La_17 35 rfl)) ?_
  refine zd_ac (ok_iconst (l := l) (B := B) (y := m_La_law) (pc := 1264) (n := (0)) (zd_dr dc_La_17 36 rfl) rfl) ?_
  refine zd_ac (ok_laload (l := l) (B := B) (y := m_La_law) (pc := 1265) hG (zd_dr dc_La_17 37 rfl)) ?_
  refine zd_ac (ok_iload (l := l) (B := B) (y := m_La_law) (pc := 1266) (zd_dr dc_La_17 38 rfl)) ?_
  refine zd_ac (ok_i2l (l := l) (B := B) (y := m_La_law) (pc := 1268) (zd_dr dc_La_17 39 rfl)) ?_
  refine zd_ac (ok_lcmp (l := l) (B := B) (y := m_La_law) (pc := 1269) (zd_dr dc_La_17 40 rfl)) ?_
  refine zd_ac (ok_if_eq (l := l) (B := B) (y := m_La_law) (pc := 1270) (zd_dr dc_La_17 41 rfl) (by decide)) ?_
  refine zd_ac (ok_iconst (l := l) (B := B) (y := m_La_law) (pc := 1273) (n := (0)) (zd_dr dc_La_17 42 rfl) rfl) ?_
  refine zd_ac (ok_iret (l := l) (B := B) (y := m_La_law) (pc := 1274) rfl (zd_dr dc_La_17 43 rfl)) ?_
  refine zd_ac (ok_goto (l := l) (B := B) (y := m_La_law) (pc := 1275) (zd_dr dc_La_17 44 rfl) (by decide)) ?_
  exact zd_an
def dl_La_18 : List (Nat × Instr × Nat) := [(1278, .aload_n 1, 1), (1279, .aload_n 0, 1), (1280, .iload 4, 2), (1282, .iconst (1), 1), (1283, .iadd, 1), (1284, .iaload, 1), (1285, .aload_n 0, 1), (1286, .iload 4, 2), (1288, .iconst (2), 1), (1289, .iadd, 1), (1290, .iaload, 1), (1291, .aload_n 3, 1), (1292, .invokestatic 153, 3), (1295, .istore 5, 2), (1297, .aload_n 2, 1), (1298, .aload_n 0, 1), (1299, .iload 4, 2), (1301, .iconst (1), 1), (1302, .iadd, 1), (1303, .iaload, 1), (1304, .aload_n 0, 1), (1305, .iload 4, 2), (1307, .iconst (2), 1), (1308, .iadd, 1), (1309, .iaload, 1), (1310, .invokevirtual 155, 3), (1313, .istore 6, 2), (1315, .aload_n 2, 1), (1316, .invokevirtual 98, 3), (1319, .iload 5, 2), (1321, .if_icmp .eq (5), 3), (1324, .iconst (0), 1), (1325, .ireturn, 1), (1326, .iload 5, 2), (1328, .ifCond .ne (15), 3), (1331, .aload_n 3, 1), (1332, .iconst (0), 1), (1333, .laload, 1), (1334, .iload 6, 2), (1336, .i2l, 1), (1337, .lcmp, 1), (1338, .ifCond .eq (5), 3), (1341, .iconst (0), 1), (1342, .ireturn, 1), (1343, .goto (28), 3)]
theorem dc_La_18 : ∀ q ∈ dl_La_18, decode (zd_yb m_La_law) q.1 = .ok q.2 := by decide +kernel
def cd_La_18 (l : Launch) (B : zd_B) : List (Nat × zd_S) := [(1278, oc_aload 1 1279), (1279, oc_aload 0 1280), (1280, oc_iload 4 1282), (1282, oc_ci (1) 1283), (1283, oc_iadd 1284), (1284, oc_iaload B 1285), (1285, oc_aload 0 1286), (1286, oc_iload 4 1288), (1288, oc_ci (2) 1289), (1289, oc_iadd 1290), (1290, oc_iaload B 1291), (1291, oc_aload 3 1292), (1292, oc_calls l B m_La_written 4 1295), (1295, oc_istore 5 1297), (1297, oc_aload 2 1298), (1298, oc_aload 0 1299), (1299, oc_iload 4 1301), (1301, oc_ci (1) 1302), (1302, oc_iadd 1303), (1303, oc_iaload B 1304), (1304, oc_aload 0 1305), (1305, oc_iload 4 1307), (1307, oc_ci (2) 1308), (1308, oc_iadd 1309), (1309, oc_iaload B 1310), (1310, oc_callv l B 8 m_Mo_written 2 1313), (1313, oc_istore 6 1315), (1315, oc_aload 2 1316), (1316, oc_callv l B 8 m_Mo_thrown 0 1319), (1319, oc_iload 5 1321), (1321, oc_icmp_eq 1326 1324), (1324, oc_ci (0) 1325), (1325, oc_iret .boolean), (1326, oc_iload 5 1328), (1328, oc_if_ne 1343 1331), (1331, oc_aload 3 1332), (1332, oc_ci (0) 1333), (1333, oc_laload B 1334), (1334, oc_iload 6 1336), (1336, oc_i2l 1337), (1337, oc_lcmp 1338), (1338, oc_if_eq 1343 1341), (1341, oc_ci (0) 1342), (1342, oc_iret .boolean), (1343, oc_goto 1371)]
set_option maxRecDepth 20000 in
theorem ok_La_18 {l : Launch} {B : zd_B} (hG : zd_G B) (hl : l.stackTraces = false) : ∀ q ∈ cd_La_18 l B, zd_ok l B m_La_law q.1 q.2 := by
  unfold cd_La_18
  refine zd_ac (ok_aload_n (l := l) (B := B) (y := m_La_law) (pc := 1278) (k := 1) rfl (zd_dr dc_La_18 0 rfl)) ?_
  refine zd_ac (ok_aload_n (l := l) (B := B) (y := m_La_law) (pc := 1279) (k := 0) rfl (zd_dr dc_La_18 1 rfl)) ?_
  refine zd_ac (ok_iload (l := l) (B := B) (y := m_La_law) (pc := 1280) (zd_dr dc_La_18 2 rfl)) ?_
  refine zd_ac (ok_iconst (l := l) (B := B) (y := m_La_law) (pc := 1282) (n := (1)) (zd_dr dc_La_18 3 rfl) rfl) ?_
  refine zd_ac (ok_iadd (l := l) (B := B) (y := m_La_law) (pc := 1283) (zd_dr dc_La_18 4 rfl)) ?_
  refine zd_ac (ok_iaload (l := l) (B := B) (y := m_La_law) (pc := 1284) hG (zd_dr dc_La_18 5 rfl)) ?_
  refine zd_ac (ok_aload_n (l := l) (B := B) (y := m_La_law) (pc := 1285) (k := 0) rfl (zd_dr dc_La_18 6 rfl)) ?_
  refine zd_ac (ok_iload (l := l) (B := B) (y := m_La_law) (pc := 1286) (zd_dr dc_La_18 7 rfl)) ?_
  refine zd_ac (ok_iconst (l := l) (B := B) (y := m_La_law) (pc := 1288) (n := (2)) (zd_dr dc_La_18 8 rfl) rfl) ?_
  refine zd_ac (ok_iadd (l := l) (B := B) (y := m_La_law) (pc := 1289) (zd_dr dc_La_18 9 rfl)) ?_
  refine zd_ac (ok_iaload (l := l) (B := B) (y := m_La_law) (pc := 1290) hG (zd_dr dc_La_18 10 rfl)) ?_
  refine zd_ac (ok_aload_n (l := l) (B := B) (y := m_La_law) (pc := 1291) (k := 3) rfl (zd_dr dc_La_18 11 rfl)) ?_
  refine zd_ac (ok_calls (l := l) (B := B) (y := m_La_law) (pc := 1292) hG cf_La_law_La_written rfl (List.mem_of_getElem? (i := 821) (by decide +kernel)) (List.mem_of_getElem? (i := 822) (by decide +kernel)) (List.mem_of_getElem? (i := 55) (by decide +kernel)) (zd_dr dc_La_18 12 rfl)) ?_
  refine zd_ac (ok_istore (l := l) (B := B) (y := m_La_law) (pc := 1295) (zd_dr dc_La_18 13 rfl) (by decide)) ?_
  refine zd_ac (ok_aload_n (l := l) (B := B) (y := m_La_law) (pc := 1297) (k := 2) rfl (zd_dr dc_La_18 14 rfl)) ?_
  refine zd_ac (ok_aload_n (l := l) (B := B) (y := m_La_law) (pc := 1298) (k := 0) rfl (zd_dr dc_La_18 15 rfl)) ?_
  refine zd_ac (ok_iload (l := l) (B := B) (y := m_La_law) (pc := 1299) (zd_dr dc_La_18 16 rfl)) ?_
  refine zd_ac (ok_iconst (l := l) (B := B) (y := m_La_law) (pc := 1301) (n := (1)) (zd_dr dc_La_18 17 rfl) rfl) ?_
  refine zd_ac (ok_iadd (l := l) (B := B) (y := m_La_law) (pc := 1302) (zd_dr dc_La_18 18 rfl)) ?_
  refine zd_ac (ok_iaload (l := l) (B := B) (y := m_La_law) (pc := 1303) hG (zd_dr dc_La_18 19 rfl)) ?_
  refine zd_ac (ok_aload_n (l := l) (B := B) (y := m_La_law) (pc := 1304) (k := 0) rfl (zd_dr dc_La_18 20 rfl)) ?_
  refine zd_ac (ok_iload (l := l) (B := B) (y := m_La_law) (pc := 1305) (zd_dr dc_La_18 21 rfl)) ?_
  refine zd_ac (ok_iconst (l := l) (B := B) (y := m_La_law) (pc := 1307) (n := (2)) (zd_dr dc_La_18 22 rfl) rfl) ?_
  refine zd_ac (ok_iadd (l := l) (B := B) (y := m_La_law) (pc := 1308) (zd_dr dc_La_18 23 rfl)) ?_
  refine zd_ac (ok_iaload (l := l) (B := B) (y := m_La_law) (pc := 1309) hG (zd_dr dc_La_18 24 rfl)) ?_
  refine zd_ac (ok_callv (l := l) (B := B) (y := m_La_law) (pc := 1310) hG (ci := 8) rfl cf_La_law_Mo_written rfl (List.mem_of_getElem? (i := 1140) (by decide +kernel)) (List.mem_of_getElem? (i := 1141) (by decide +kernel)) (List.mem_of_getElem? (i := 1142) (by decide +kernel)) (zd_dr dc_La_18 25 rfl)) ?_
  refine zd_ac (ok_istore (l := l) (B := B) (y := m_La_law) (pc := 1313) (zd_dr dc_La_18 26 rfl) (by decide)) ?_
  refine zd_ac (ok_aload_n (l := l) (B := B) (y := m_La_law) (pc := 1315) (k := 2) rfl (zd_dr dc_La_18 27 rfl)) ?_
  refine zd_ac (ok_callv (l := l) (B := B) (y := m_La_law) (pc := 1316) hG (ci := 8) rfl cf_La_law_Mo_thrown rfl (List.mem_of_getElem? (i := 947) (by decide +kernel)) (List.mem_of_getElem? (i := 948) (by decide +kernel)) (List.mem_of_getElem? (i := 949) (by decide +kernel)) (zd_dr dc_La_18 28 rfl)) ?_
  refine zd_ac (ok_iload (l := l) (B := B) (y := m_La_law) (pc := 1319) (zd_dr dc_La_18 29 rfl)) ?_
  refine zd_ac (ok_icmp_eq (l := l) (B := B) (y := m_La_law) (pc := 1321) (zd_dr dc_La_18 30 rfl) (by decide)) ?_
  refine zd_ac (ok_iconst (l := l) (B := B) (y := m_La_law) (pc := 1324) (n := (0)) (zd_dr dc_La_18 31 rfl) rfl) ?_
  refine zd_ac (ok_iret (l := l) (B := B) (y := m_La_law) (pc := 1325) rfl (zd_dr dc_La_18 32 rfl)) ?_
  refine zd_ac (ok_iload (l := l) (B := B) (y := m_La_law) (pc := 1326) (zd_dr dc_La_18 33 rfl)) ?_
  refine zd_ac (ok_if_ne (l := l) (B := B) (y := m_La_law) (pc := 1328) (zd_dr dc_La_18 34 rfl) (by decide)) ?_
  refine zd_ac (ok_aload_n (l := l) (B := B) (y := m_La_law) (pc := 1331) (k := 3) rfl (zd_dr dc_La_18 35 rfl)) ?_
  refine zd_ac (ok_iconst (l := l) (B := B) (y := m_La_law) (pc := 1332) (n := (0)) (zd_dr dc_La_18 36 rfl) rfl) ?_
  refine zd_ac (ok_laload (l := l) (B := B) (y := m_La_law) (pc := 1333) hG (zd_dr dc_La_18 37 rfl)) ?_
  refine zd_ac (ok_iload (l := l) (B := B) (y := m_La_law) (pc := 1334) (zd_dr dc_La_18 38 rfl)) ?_
  refine zd_ac (ok_i2l (l := l) (B := B) (y := m_La_law) (pc := 1336) (zd_dr dc_La_18 39 rfl)) ?_
  refine zd_ac (ok_lcmp (l := l) (B := B) (y := m_La_law) (pc := 1337) (zd_dr dc_La_18 40 rfl)) ?_
  refine zd_ac (ok_if_eq (l := l) (B := B) (y := m_La_law) (pc := 1338) (zd_dr dc_La_18 41 rfl) (by decide)) ?_
  refine zd_ac (ok_iconst (l := l) (B := B) (y := m_La_law) (pc := 1341) (n := (0)) (zd_dr dc_La_18 42 rfl) rfl) ?_
  refine zd_ac (ok_iret (l := l) (B := B) (y := m_La_law) (pc := 1342) rfl (zd_dr dc_La_18 43 rfl)) ?_
  refine zd_ac (ok_goto (l := l) (B := B) (y := m_La_law) (pc := 1343) (zd_dr dc_La_18 44 rfl) (by decide)) ?_
  exact zd_an
def dl_La_19 : List (Nat × Instr × Nat) := [(1346, .aload_n 1, 1), (1347, .aload_n 0, 1), (1348, .iload 4, 2), (1350, .iconst (1), 1), (1351, .iadd, 1), (1352, .iaload, 1), (1353, .invokevirtual 156, 3), (1356, .aload_n 2, 1), (1357, .aload_n 0, 1), (1358, .iload 4, 2), (1360, .iconst (1), 1), (1361, .iadd, 1), (1362, .iaload, 1), (1363, .invokevirtual 160, 3), (1366, .if_icmp .eq (5), 3), (1369, .iconst (0), 1), (1370, .ireturn, 1)]
theorem dc_La_19 : ∀ q ∈ dl_La_19, decode (zd_yb m_La_law) q.1 = .ok q.2 := by decide +kernel
def cd_La_19 (l : Launch) (B : zd_B) : List (Nat × zd_S) := [(1346, oc_aload 1 1347), (1347, oc_aload 0 1348), (1348, oc_iload 4 1350), (1350, oc_ci (1) 1351), (1351, oc_iadd 1352), (1352, oc_iaload B 1353), (1353, oc_callv l B 0 m_De_character 1 1356), (1356, oc_aload 2 1357), (1357, oc_aload 0 1358), (1358, oc_iload 4 1360), (1360, oc_ci (1) 1361), (1361, oc_iadd 1362), (1362, oc_iaload B 1363), (1363, oc_callv l B 8 m_Mo_character 1 1366), (1366, oc_icmp_eq 1371 1369), (1369, oc_ci (0) 1370), (1370, oc_iret .boolean)]
set_option maxRecDepth 20000 in
theorem ok_La_19 {l : Launch} {B : zd_B} (hG : zd_G B) (hl : l.stackTraces = false) : ∀ q ∈ cd_La_19 l B, zd_ok l B m_La_law q.1 q.2 := by
  unfold cd_La_19
  refine zd_ac (ok_aload_n (l := l) (B := B) (y := m_La_law) (pc := 1346) (k := 1) rfl (zd_dr dc_La_19 0 rfl)) ?_
  refine zd_ac (ok_aload_n (l := l) (B := B) (y := m_La_law) (pc := 1347) (k := 0) rfl (zd_dr dc_La_19 1 rfl)) ?_
  refine zd_ac (ok_iload (l := l) (B := B) (y := m_La_law) (pc := 1348) (zd_dr dc_La_19 2 rfl)) ?_
  refine zd_ac (ok_iconst (l := l) (B := B) (y := m_La_law) (pc := 1350) (n := (1)) (zd_dr dc_La_19 3 rfl) rfl) ?_
  refine zd_ac (ok_iadd (l := l) (B := B) (y := m_La_law) (pc := 1351) (zd_dr dc_La_19 4 rfl)) ?_
  refine zd_ac (ok_iaload (l := l) (B := B) (y := m_La_law) (pc := 1352) hG (zd_dr dc_La_19 5 rfl)) ?_
  refine zd_ac (ok_callv (l := l) (B := B) (y := m_La_law) (pc := 1353) hG (ci := 0) rfl cf_La_law_De_character rfl (List.mem_of_getElem? (i := 279) (by decide +kernel)) (List.mem_of_getElem? (i := 280) (by decide +kernel)) (List.mem_of_getElem? (i := 281) (by decide +kernel)) (zd_dr dc_La_19 6 rfl)) ?_
  refine zd_ac (ok_aload_n (l := l) (B := B) (y := m_La_law) (pc := 1356) (k := 2) rfl (zd_dr dc_La_19 7 rfl)) ?_
  refine zd_ac (ok_aload_n (l := l) (B := B) (y := m_La_law) (pc := 1357) (k := 0) rfl (zd_dr dc_La_19 8 rfl)) ?_
  refine zd_ac (ok_iload (l := l) (B := B) (y := m_La_law) (pc := 1358) (zd_dr dc_La_19 9 rfl)) ?_
  refine zd_ac (ok_iconst (l := l) (B := B) (y := m_La_law) (pc := 1360) (n := (1)) (zd_dr dc_La_19 10 rfl) rfl) ?_
  refine zd_ac (ok_iadd (l := l) (B := B) (y := m_La_law) (pc := 1361) (zd_dr dc_La_19 11 rfl)) ?_
  refine zd_ac (ok_iaload (l := l) (B := B) (y := m_La_law) (pc := 1362) hG (zd_dr dc_La_19 12 rfl)) ?_
  refine zd_ac (ok_callv (l := l) (B := B) (y := m_La_law) (pc := 1363) hG (ci := 8) rfl cf_La_law_Mo_character rfl (List.mem_of_getElem? (i := 1159) (by decide +kernel)) (List.mem_of_getElem? (i := 1160) (by decide +kernel)) (List.mem_of_getElem? (i := 1161) (by decide +kernel)) (zd_dr dc_La_19 13 rfl)) ?_
  refine zd_ac (ok_icmp_eq (l := l) (B := B) (y := m_La_law) (pc := 1366) (zd_dr dc_La_19 14 rfl) (by decide)) ?_
  refine zd_ac (ok_iconst (l := l) (B := B) (y := m_La_law) (pc := 1369) (n := (0)) (zd_dr dc_La_19 15 rfl) rfl) ?_
  refine zd_ac (ok_iret (l := l) (B := B) (y := m_La_law) (pc := 1370) rfl (zd_dr dc_La_19 16 rfl)) ?_
  exact zd_an

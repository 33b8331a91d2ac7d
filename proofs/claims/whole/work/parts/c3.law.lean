/-! the law's walk -/
def Lq : zd_O → zd_H → Prop := fun x _ => x = .inl (some (.int 1))
theorem LW.up {B : zd_B} {h : zd_H} {i : Nat} (L : LW B h i) : LW B h (i + 6) := by
  obtain ⟨t, R, D, ln, T, k, cap, f0, cw, mw, al, hR, hln, hD, hTl, h64, hkh, hrm⟩ := L
  exact ⟨t, R, D, ln, T, k, cap, f0, cw, mw, al, hR, hln, hD, hTl, h64, hkh, by omega⟩
theorem ll_cmp {n i : Nat} (hn : n ≤ 3072) (hi : i ≤ 4000) : nI n - 6 < nI i ↔ n < i + 6 := by
  rw [show (6 : Int32) = iI 6 by decide, iI_nI, iI_nI, iI_sub, iI_lt ⟨by omega, by omega⟩ ⟨by omega, by omega⟩]
  omega
section ZE
variable {l : Launch} {B : zd_B}
theorem law_loop (hG : zd_G B) (hl : l.stackTraces = false) (hN : zd_N B) {n sA : Nat} {f : Nat → Int32} (ol : zd_Ol B sA n f) (hn : n ≤ 3072) :
    ∀ (d i : Nat) (h : zd_H) (x5 x6 : Option Value), n < i + 6 + d → i ≤ n + 6 → LW B h i → zd_W l B m_La_law 23 [some (.ref sA), some (.ref (zd_b0 B + 0)), some (.ref (zd_b0 B + 53)), some (.ref (zd_b0 B + 64)), some (.int (nI i)), x5, x6] [] h Lq := by
  intro d
  induction d with
  | zero =>
    intro i h x5 x6 hd hi L
    refine zd_go (ok_La_b hG hl) [1377] 80 ?_
    conv => whnf
    refine ⟨n, Or.inr ⟨f, ol⟩, ?_⟩
    conv => whnf
    refine ⟨fun _ => ?_, fun z => absurd ((ll_cmp hn (by omega)).mpr (by omega)) z⟩
    conv => whnf
    refine ⟨?_, trivial⟩
    refine zd_go (ok_La_e hG hl) [] 10 ?_
    conv => whnf
    refine ⟨rfl, ?_, trivial⟩
    rfl
  | succ d ih =>
    intro i h x5 x6 hd hi L
    by_cases hc : n < i + 6
    · refine zd_go (ok_La_b hG hl) [1377] 80 ?_
      conv => whnf
      refine ⟨n, Or.inr ⟨f, ol⟩, ?_⟩
      conv => whnf
      refine ⟨fun _ => ?_, fun z => absurd ((ll_cmp hn (by omega)).mpr (by omega)) z⟩
      conv => whnf
      refine ⟨?_, trivial⟩
      refine zd_go (ok_La_e hG hl) [] 10 ?_
      conv => whnf
      refine ⟨rfl, ?_, trivial⟩
      rfl
    · have hi6 : i + 6 ≤ n := by omega
      have nx : ∀ (h' : zd_H) (x5 x6 : Option Value), LW B h' (i + 6) → zd_W l B m_La_law 1371 [some (.ref sA), some (.ref (zd_b0 B + 0)), some (.ref (zd_b0 B + 53)), some (.ref (zd_b0 B + 64)), some (.int (nI i)), x5, x6] [] h' Lq := by
        intro h' x5 x6 L'
        refine zd_go (ok_La_e hG hl) [23] 10 ?_
        conv => whnf
        refine ⟨?_, trivial⟩
        rw [show nI i + 6 = nI (i + 6) from nI_add i 6]
        exact ih (i + 6) h' x5 x6 (by omega) (by omega) L'
      refine zd_go (ok_La_b hG hl) [136, 193, 206, 242, 334, 422, 482, 566, 650, 710, 770, 842, 914, 986, 1034, 1094, 1142, 1210, 1278, 1346, 1371, 1377] 80 ?_
      conv => whnf
      refine ⟨n, Or.inr ⟨f, ol⟩, ?_⟩
      conv => whnf
      refine ⟨fun z => absurd ((ll_cmp hn (by omega)).mp z) hc, fun _ => ?_⟩
      conv => whnf
      refine ⟨_, _, Or.inr ol, vp_in_nI (by omega) (by omega), ?_⟩
      generalize f (nI i).toNatClampNeg = x
      conv => whnf
      refine ⟨fun _ => ?_, fun _ => ?_⟩
      · conv => whnf
        refine ⟨?_, trivial⟩
        exact lc_0 hG hl hN ol hn hi6 L nx
      conv => whnf
      refine ⟨fun _ => ?_, fun _ => ?_⟩
      · conv => whnf
        refine ⟨?_, trivial⟩
        exact lc_1 hG hl hN ol hn hi6 L nx
      conv => whnf
      refine ⟨fun _ => ?_, fun _ => ?_⟩
      · conv => whnf
        refine ⟨?_, trivial⟩
        exact lc_2 hG hl hN ol hn hi6 L nx
      conv => whnf
      refine ⟨fun _ => ?_, fun _ => ?_⟩
      · conv => whnf
        refine ⟨?_, trivial⟩
        exact lc_3 hG hl hN ol hn hi6 L nx
      conv => whnf
      refine ⟨fun _ => ?_, fun _ => ?_⟩
      · conv => whnf
        refine ⟨?_, trivial⟩
        exact lc_4 hG hl hN ol hn hi6 L nx
      conv => whnf
      refine ⟨fun _ => ?_, fun _ => ?_⟩
      · conv => whnf
        refine ⟨?_, trivial⟩
        exact lc_5 hG hl hN ol hn hi6 L nx
      conv => whnf
      refine ⟨fun _ => ?_, fun _ => ?_⟩
      · conv => whnf
        refine ⟨?_, trivial⟩
        exact lc_6 hG hl hN ol hn hi6 L nx
      conv => whnf
      refine ⟨fun _ => ?_, fun _ => ?_⟩
      · conv => whnf
        refine ⟨?_, trivial⟩
        exact lc_7 hG hl hN ol hn hi6 L nx
      conv => whnf
      refine ⟨fun _ => ?_, fun _ => ?_⟩
      · conv => whnf
        refine ⟨?_, trivial⟩
        exact lc_8 hG hl hN ol hn hi6 L nx
      conv => whnf
      refine ⟨fun _ => ?_, fun _ => ?_⟩
      · conv => whnf
        refine ⟨?_, trivial⟩
        exact lc_9 hG hl hN ol hn hi6 L nx
      conv => whnf
      refine ⟨fun _ => ?_, fun _ => ?_⟩
      · conv => whnf
        refine ⟨?_, trivial⟩
        exact lc_10 hG hl hN ol hn hi6 L nx
      conv => whnf
      refine ⟨fun _ => ?_, fun _ => ?_⟩
      · conv => whnf
        refine ⟨?_, trivial⟩
        exact lc_11 hG hl hN ol hn hi6 L nx
      conv => whnf
      refine ⟨fun _ => ?_, fun _ => ?_⟩
      · conv => whnf
        refine ⟨?_, trivial⟩
        exact lc_12 hG hl hN ol hn hi6 L nx
      conv => whnf
      refine ⟨fun _ => ?_, fun _ => ?_⟩
      · conv => whnf
        refine ⟨?_, trivial⟩
        exact lc_13 hG hl hN ol hn hi6 L nx
      conv => whnf
      refine ⟨fun _ => ?_, fun _ => ?_⟩
      · conv => whnf
        refine ⟨?_, trivial⟩
        exact lc_14 hG hl hN ol hn hi6 L nx
      conv => whnf
      refine ⟨fun _ => ?_, fun _ => ?_⟩
      · conv => whnf
        refine ⟨?_, trivial⟩
        exact lc_15 hG hl hN ol hn hi6 L nx
      conv => whnf
      refine ⟨fun _ => ?_, fun _ => ?_⟩
      · conv => whnf
        refine ⟨?_, trivial⟩
        exact lc_16 hG hl hN ol hn hi6 L nx
      conv => whnf
      refine ⟨fun _ => ?_, fun _ => ?_⟩
      · conv => whnf
        refine ⟨?_, trivial⟩
        exact lc_17 hG hl hN ol hn hi6 L nx
      conv => whnf
      refine ⟨fun _ => ?_, fun _ => ?_⟩
      · conv => whnf
        refine ⟨?_, trivial⟩
        exact lc_18 hG hl hN ol hn hi6 L nx
      conv => whnf
      refine ⟨fun _ => ?_, fun _ => ?_⟩
      · conv => whnf
        refine ⟨?_, trivial⟩
        exact lc_19 hG hl hN ol hn hi6 L nx
      conv => whnf
      refine ⟨?_, trivial⟩
      exact nx h x5 x6 L.up
theorem law_walk (hG : zd_G B) (hl : l.stackTraces = false) (hN : zd_N B) {n sA : Nat} {f : Nat → Int32} {h : zd_H} (ol : zd_Ol B sA n f) (hn : n ≤ 3072) (c1 : h.1 = 0) (s1 : h.2.1 = 0) : zd_M l B m_La_law [.ref sA] h Lq := by
  have cb := cb_big
  have sb := sb_big
  refine zd_go (ok_La_b hG hl) [23] 80 ?_
  conv => whnf
  refine ⟨by omega, by omega, ?_⟩
  rw [show zd_b0 B + h.1 = zd_b0 B + 0 by omega]
  generalize hm1 : zd_push h (zd_b0 B + 0) (.inl (0, [.null, .null, .null, .null, .null, .null, .null, .null])) 8 = m1
  have em1 : m1.1 = 1 := by rw [← hm1]; show h.1 + 1 = 1; omega
  have sm1 : m1.2.1 = 8 := by rw [← hm1]; show h.2.1 + 8 = 8; omega
  have o1 : zd_Ob B m1 (zd_b0 B + 0) 0 [.null, .null, .null, .null, .null, .null, .null, .null] := by
    rw [← hm1]
    exact ⟨⟨by omega, by show zd_b0 B + 0 < zd_b0 B + (h.1 + 1); omega⟩, if_pos rfl⟩
  conv => whnf
  refine ⟨⟨rfl, Nat.le_of_ble_eq_true rfl, Nat.le_of_ble_eq_true rfl⟩, ?_⟩
  refine desk_init hG hl em1 (by omega) o1 (fun h2 w2 a2 b2 => ?_)
  conv => whnf
  refine ⟨by omega, by omega, ?_⟩
  rw [show zd_b0 B + h2.1 = zd_b0 B + 53 by omega]
  generalize hm3 : zd_push h2 (zd_b0 B + 53) (.inl (8, [.int 0, .null, .int 0, .null, .null, .null, .null, .null, .int 0, .long 0, .int 0, .int 0, .null, .int 0, .null, .int 0, .null, .int 0, .null, .int 0, .int 0])) 21 = m3
  have k3 : Ke B h2 m3 (fun _ => False) := by
    rw [← hm3, show zd_b0 B + 53 = zd_b0 B + h2.1 by omega]
    exact Ke.push
  have em3 : m3.1 = 54 := by rw [← hm3]; show h2.1 + 1 = 54; omega
  have sm3 : m3.2.1 = 8 + 4995 + 21 := by rw [← hm3]; show h2.2.1 + 21 = 8 + 4995 + 21; omega
  have o3 : zd_Ob B m3 (zd_b0 B + 53) 8 [.int 0, .null, .int 0, .null, .null, .null, .null, .null, .int 0, .long 0, .int 0, .int 0, .null, .int 0, .null, .int 0, .null, .int 0, .null, .int 0, .int 0] := by
    rw [← hm3]
    exact ⟨⟨by omega, by show zd_b0 B + 53 < zd_b0 B + (h2.1 + 1); omega⟩, if_pos rfl⟩
  have w3 := k3.cw w2 (fun _ _ z => z)
  conv => whnf
  refine ⟨⟨rfl, Nat.le_of_ble_eq_true rfl, Nat.le_of_ble_eq_true rfl⟩, ?_⟩
  refine model_init hG hl em3 (by omega) o3 (fun h4 w4 a4 b4 ke4 => ?_)
  have w5 := ke4.cw w3 (fun q hq z => by rcases hq with hq | hq <;> omega)
  conv => whnf
  refine ⟨⟨by decide, by decide, by omega, by show h4.2.1 + 1 ≤ zd_SB; omega⟩, ?_⟩
  rw [show zd_b0 B + h4.1 = zd_b0 B + 64 by omega]
  generalize hm5 : zd_push h4 (zd_b0 B + 64) (.inr (.inr (.inl (Int32.toNatClampNeg 1, fun _ => 0)))) (Int32.toNatClampNeg 1) = m5
  have k5 : Ke B h4 m5 (fun _ => False) := by
    rw [← hm5, show zd_b0 B + 64 = zd_b0 B + h4.1 by omega]
    exact Ke.push
  have em5 : m5.1 = 65 := by rw [← hm5]; show h4.1 + 1 = 65; omega
  have sm5 : m5.2.1 = 8 + 4995 + 21 + 36532 + 1 := by rw [← hm5]; show h4.2.1 + 1 = _; omega
  have al : zd_Al B m5 (zd_b0 B + 64) 1 (fun _ => 0) := by
    rw [← hm5]
    exact ⟨⟨by omega, by show zd_b0 B + 64 < zd_b0 B + (h4.1 + 1); omega⟩, if_pos rfl⟩
  conv => whnf
  refine ⟨?_, trivial⟩
  exact law_loop hG hl hN ol hn (n + 1) 0 m5 none none (by omega) (by omega) ⟨0, R0, fun _ => 0, 0, [], 35, 1100, fun _ => 0, k5.cw w5 (fun _ _ z => z), k5.mw w4 (fun _ _ z => z), al, ROk0, by decide, fun _ => (by decide : (0 : Nat) < 256), by decide, by omega, by omega, Or.inl ⟨rfl, by omega, by omega⟩⟩
end ZE

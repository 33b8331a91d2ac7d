/-! the constructor of the model -/
section YG
variable {l : Launch} {B : zd_B} {h : zd_H} {Q : zd_O → zd_H → Prop}
theorem w_mo93 (hG : zd_G B) (hl : l.stackTraces = false)
    (hq : ∀ h', Gw B h h' (fun q => q = zd_b0 B + 56) 0 0 → zd_Ai B h' (zd_b0 B + 56) 0 10 (fun j => nI (if j < 10 then 1 else 0)) → Q (.inl none) h') (o : zd_Ob B h (zd_b0 B + 53) 8 [.int 0, .ref (zd_b0 B + 54), .int 0, .ref (zd_b0 B + 55), .ref (zd_b0 B + 56), .ref (zd_b0 B + 57), .ref (zd_b0 B + 58), .ref (zd_b0 B + 59), .int 0, .long 0, .int 0, .int 0, .ref (zd_b0 B + 60), .int 0, .ref (zd_b0 B + 61), .int 0, .ref (zd_b0 B + 62), .int 0, .ref (zd_b0 B + 63), .int 0, .int 0]) :
    ∀ (d i : Nat) (h1 : zd_H), i + d = 10 → Gw B h h1 (fun q => q = zd_b0 B + 56) 0 0 → zd_Ai B h1 (zd_b0 B + 56) 0 10 (fun j => nI (if j < i then 1 else 0)) → zd_W l B m_Mo_init 93 [some (.ref (zd_b0 B + 53)), some (.int (nI i))] [] h1 Q := by
  intro d
  induction d with
  | zero =>
    intro i h1 hi g a
    have e : i = 10 := by omega
    subst e
    refine zd_go (ok_Mo_init hG hl) [] 60 ?_
    conv => whnf
    refine ⟨fun _ => ?_, fun z => absurd (by decide) z⟩
    conv => whnf
    exact ⟨hq h1 g a, trivial⟩
  | succ d ih =>
    intro i h1 hi g a
    have o1 := g.ke.ob o (fun e => by omega)
    refine zd_go (ok_Mo_init hG hl) [93] 60 ?_
    conv => whnf
    refine ⟨fun z => absurd ((nI_leI (a := 10) (by decide) (by omega)).mp z) (by omega), fun _ => ?_⟩
    conv => whnf
    refine ⟨_, o1, ?_⟩
    conv => whnf
    refine ⟨10, _, a, vp_in_nI (by omega) (by decide), ?_⟩
    rw [nI_clamp (by omega)]
    conv => whnf
    refine ⟨?_, trivial⟩
    rw [nI_1]
    refine ih (i + 1) _ (by omega) (g.tr (Gw.set rfl)) ⟨a.1, zd_set_s.trans ?_⟩
    congr 4
    funext j
    show (if j = i then (1 : Int32) else _) = _
    by_cases e : j = i
    · rw [if_pos e, if_pos (by omega)]
      rfl
    · rw [if_neg e]
      show nI (if j < i then 1 else 0) = nI (if j < i + 1 then 1 else 0)
      by_cases q : j < i
      · rw [if_pos q, if_pos (by omega)]
      · rw [if_neg q, if_neg (by omega)]
theorem model_init (hG : zd_G B) (hl : l.stackTraces = false) (c1 : h.1 = 54) (r2 : h.2.1 + 36532 ≤ zd_SB) (o : zd_Ob B h (zd_b0 B + 53) 8 [.int 0, .null, .int 0, .null, .null, .null, .null, .null, .int 0, .long 0, .int 0, .int 0, .null, .int 0, .null, .int 0, .null, .int 0, .null, .int 0, .int 0])
    (hq : ∀ h', Mw B h' 0 R0 (fun _ => 0) 0 [] → h'.1 = 64 → h'.2.1 = h.2.1 + 36532 → Ke B h h' (fun q => q = zd_b0 B + 53) → Q (.inl none) h') : zd_M l B m_Mo_init [.ref (zd_b0 B + 53)] h Q := by
  have cb : (64 : Nat) ≤ zd_CB := by decide
  have k0 : Ke B h h (fun q => q = zd_b0 B + 53) := ⟨Nat.le_refl _, fun _ _ _ => rfl⟩
  refine zd_go (ok_Mo_init hG hl) [93] 60 ?_
  conv => whnf
  refine ⟨Nat.zero_le _, ?_⟩
  conv => whnf
  refine ⟨⟨by decide, by decide, by omega, by show h.2.1 + 1100 ≤ _; omega⟩, ?_⟩
  generalize hp1 : zd_push h (zd_b0 B + h.1) (.inr (.inl (0, Int32.toNatClampNeg 1100, fun _ => 0))) (Int32.toNatClampNeg 1100) = p1
  have kp1 : Ke B h p1 (fun _ => False) := by
    rw [← hp1]
    exact (Gw.push (S := fun _ => False)).ke
  have ep1 : p1.1 = h.1 + 1 := by rw [← hp1]; rfl
  have sp1 : p1.2.1 = h.2.1 + 1100 := by rw [← hp1]; rfl
  have x54 : zd_Ai B p1 (zd_b0 B + 54) 0 1100 (fun _ => 0) := by
    rw [← hp1, show zd_b0 B + 54 = zd_b0 B + h.1 by omega]
    exact ⟨⟨by omega, by show zd_b0 B + h.1 < zd_b0 B + (h.1 + 1); omega⟩, if_pos rfl⟩
  have o := kp1.ob o (fun z => z)
  rw [show zd_b0 B + h.1 = zd_b0 B + 54 by omega]
  conv => whnf
  refine ⟨_, o, Nat.le_of_ble_eq_true rfl, ⟨rfl, rfl⟩, ?_⟩
  generalize hm1 : zd_set p1 (zd_b0 B + 53) (.inl (8, ([.int 0, .null, .int 0, .null, .null, .null, .null, .null, .int 0, .long 0, .int 0, .int 0, .null, .int 0, .null, .int 0, .null, .int 0, .null, .int 0, .int 0] : List Value).set 1 (.ref (zd_b0 B + 54)))) = m1
  have o : zd_Ob B m1 (zd_b0 B + 53) 8 [.int 0, .ref (zd_b0 B + 54), .int 0, .null, .null, .null, .null, .null, .int 0, .long 0, .int 0, .int 0, .null, .int 0, .null, .int 0, .null, .int 0, .null, .int 0, .int 0] := by
    rw [← hm1]
    exact ⟨o.1, zd_set_s⟩
  have km1 : Ke B p1 m1 (fun q => q = zd_b0 B + 53) := by
    rw [← hm1]
    exact (Gw.set (S := fun q => q = zd_b0 B + 53) rfl).ke
  have em1 : m1.1 = p1.1 := by rw [← hm1]; rfl
  have sm1 : m1.2.1 = p1.2.1 := by rw [← hm1]; rfl
  have x54 := km1.ai x54 (fun e => by omega)
  have k0 : Ke B h m1 (fun q => q = zd_b0 B + 53) := (k0.tr ⟨kp1.1, fun a ha _ => kp1.2 a ha (fun z => z)⟩).tr km1
  conv => whnf
  refine ⟨⟨by decide, by decide, by omega, by show m1.2.1 + 10000 ≤ _; omega⟩, ?_⟩
  generalize hp2 : zd_push m1 (zd_b0 B + m1.1) (.inr (.inl (0, Int32.toNatClampNeg 10000, fun _ => 0))) (Int32.toNatClampNeg 10000) = p2
  have kp2 : Ke B m1 p2 (fun _ => False) := by
    rw [← hp2]
    exact (Gw.push (S := fun _ => False)).ke
  have ep2 : p2.1 = m1.1 + 1 := by rw [← hp2]; rfl
  have sp2 : p2.2.1 = m1.2.1 + 10000 := by rw [← hp2]; rfl
  have x54 := kp2.ai x54 (fun z => z)
  have x55 : zd_Ai B p2 (zd_b0 B + 55) 0 10000 (fun _ => 0) := by
    rw [← hp2, show zd_b0 B + 55 = zd_b0 B + m1.1 by omega]
    exact ⟨⟨by omega, by show zd_b0 B + m1.1 < zd_b0 B + (m1.1 + 1); omega⟩, if_pos rfl⟩
  have o := kp2.ob o (fun z => z)
  rw [show zd_b0 B + m1.1 = zd_b0 B + 55 by omega]
  conv => whnf
  refine ⟨_, o, Nat.le_of_ble_eq_true rfl, ⟨rfl, rfl⟩, ?_⟩
  generalize hm2 : zd_set p2 (zd_b0 B + 53) (.inl (8, ([.int 0, .ref (zd_b0 B + 54), .int 0, .null, .null, .null, .null, .null, .int 0, .long 0, .int 0, .int 0, .null, .int 0, .null, .int 0, .null, .int 0, .null, .int 0, .int 0] : List Value).set 3 (.ref (zd_b0 B + 55)))) = m2
  have o : zd_Ob B m2 (zd_b0 B + 53) 8 [.int 0, .ref (zd_b0 B + 54), .int 0, .ref (zd_b0 B + 55), .null, .null, .null, .null, .int 0, .long 0, .int 0, .int 0, .null, .int 0, .null, .int 0, .null, .int 0, .null, .int 0, .int 0] := by
    rw [← hm2]
    exact ⟨o.1, zd_set_s⟩
  have km2 : Ke B p2 m2 (fun q => q = zd_b0 B + 53) := by
    rw [← hm2]
    exact (Gw.set (S := fun q => q = zd_b0 B + 53) rfl).ke
  have em2 : m2.1 = p2.1 := by rw [← hm2]; rfl
  have sm2 : m2.2.1 = p2.2.1 := by rw [← hm2]; rfl
  have x54 := km2.ai x54 (fun e => by omega)
  have x55 := km2.ai x55 (fun e => by omega)
  have k0 : Ke B h m2 (fun q => q = zd_b0 B + 53) := (k0.tr ⟨kp2.1, fun a ha _ => kp2.2 a ha (fun z => z)⟩).tr km2
  conv => whnf
  refine ⟨⟨by decide, by decide, by omega, by show m2.2.1 + 10 ≤ _; omega⟩, ?_⟩
  generalize hp3 : zd_push m2 (zd_b0 B + m2.1) (.inr (.inl (0, Int32.toNatClampNeg 10, fun _ => 0))) (Int32.toNatClampNeg 10) = p3
  have kp3 : Ke B m2 p3 (fun _ => False) := by
    rw [← hp3]
    exact (Gw.push (S := fun _ => False)).ke
  have ep3 : p3.1 = m2.1 + 1 := by rw [← hp3]; rfl
  have sp3 : p3.2.1 = m2.2.1 + 10 := by rw [← hp3]; rfl
  have x54 := kp3.ai x54 (fun z => z)
  have x55 := kp3.ai x55 (fun z => z)
  have x56 : zd_Ai B p3 (zd_b0 B + 56) 0 10 (fun _ => 0) := by
    rw [← hp3, show zd_b0 B + 56 = zd_b0 B + m2.1 by omega]
    exact ⟨⟨by omega, by show zd_b0 B + m2.1 < zd_b0 B + (m2.1 + 1); omega⟩, if_pos rfl⟩
  have o := kp3.ob o (fun z => z)
  rw [show zd_b0 B + m2.1 = zd_b0 B + 56 by omega]
  conv => whnf
  refine ⟨_, o, Nat.le_of_ble_eq_true rfl, ⟨rfl, rfl⟩, ?_⟩
  generalize hm3 : zd_set p3 (zd_b0 B + 53) (.inl (8, ([.int 0, .ref (zd_b0 B + 54), .int 0, .ref (zd_b0 B + 55), .null, .null, .null, .null, .int 0, .long 0, .int 0, .int 0, .null, .int 0, .null, .int 0, .null, .int 0, .null, .int 0, .int 0] : List Value).set 4 (.ref (zd_b0 B + 56)))) = m3
  have o : zd_Ob B m3 (zd_b0 B + 53) 8 [.int 0, .ref (zd_b0 B + 54), .int 0, .ref (zd_b0 B + 55), .ref (zd_b0 B + 56), .null, .null, .null, .int 0, .long 0, .int 0, .int 0, .null, .int 0, .null, .int 0, .null, .int 0, .null, .int 0, .int 0] := by
    rw [← hm3]
    exact ⟨o.1, zd_set_s⟩
  have km3 : Ke B p3 m3 (fun q => q = zd_b0 B + 53) := by
    rw [← hm3]
    exact (Gw.set (S := fun q => q = zd_b0 B + 53) rfl).ke
  have em3 : m3.1 = p3.1 := by rw [← hm3]; rfl
  have sm3 : m3.2.1 = p3.2.1 := by rw [← hm3]; rfl
  have x54 := km3.ai x54 (fun e => by omega)
  have x55 := km3.ai x55 (fun e => by omega)
  have x56 := km3.ai x56 (fun e => by omega)
  have k0 : Ke B h m3 (fun q => q = zd_b0 B + 53) := (k0.tr ⟨kp3.1, fun a ha _ => kp3.2 a ha (fun z => z)⟩).tr km3
  conv => whnf
  refine ⟨⟨by decide, by decide, by omega, by show m3.2.1 + 10 ≤ _; omega⟩, ?_⟩
  generalize hp4 : zd_push m3 (zd_b0 B + m3.1) (.inr (.inl (2, Int32.toNatClampNeg 10, fun _ => 0))) (Int32.toNatClampNeg 10) = p4
  have kp4 : Ke B m3 p4 (fun _ => False) := by
    rw [← hp4]
    exact (Gw.push (S := fun _ => False)).ke
  have ep4 : p4.1 = m3.1 + 1 := by rw [← hp4]; rfl
  have sp4 : p4.2.1 = m3.2.1 + 10 := by rw [← hp4]; rfl
  have x54 := kp4.ai x54 (fun z => z)
  have x55 := kp4.ai x55 (fun z => z)
  have x56 := kp4.ai x56 (fun z => z)
  have x57 : zd_Ai B p4 (zd_b0 B + 57) 2 10 (fun _ => 0) := by
    rw [← hp4, show zd_b0 B + 57 = zd_b0 B + m3.1 by omega]
    exact ⟨⟨by omega, by show zd_b0 B + m3.1 < zd_b0 B + (m3.1 + 1); omega⟩, if_pos rfl⟩
  have o := kp4.ob o (fun z => z)
  rw [show zd_b0 B + m3.1 = zd_b0 B + 57 by omega]
  conv => whnf
  refine ⟨_, o, Nat.le_of_ble_eq_true rfl, ⟨rfl, rfl⟩, ?_⟩
  generalize hm4 : zd_set p4 (zd_b0 B + 53) (.inl (8, ([.int 0, .ref (zd_b0 B + 54), .int 0, .ref (zd_b0 B + 55), .ref (zd_b0 B + 56), .null, .null, .null, .int 0, .long 0, .int 0, .int 0, .null, .int 0, .null, .int 0, .null, .int 0, .null, .int 0, .int 0] : List Value).set 5 (.ref (zd_b0 B + 57)))) = m4
  have o : zd_Ob B m4 (zd_b0 B + 53) 8 [.int 0, .ref (zd_b0 B + 54), .int 0, .ref (zd_b0 B + 55), .ref (zd_b0 B + 56), .ref (zd_b0 B + 57), .null, .null, .int 0, .long 0, .int 0, .int 0, .null, .int 0, .null, .int 0, .null, .int 0, .null, .int 0, .int 0] := by
    rw [← hm4]
    exact ⟨o.1, zd_set_s⟩
  have km4 : Ke B p4 m4 (fun q => q = zd_b0 B + 53) := by
    rw [← hm4]
    exact (Gw.set (S := fun q => q = zd_b0 B + 53) rfl).ke
  have em4 : m4.1 = p4.1 := by rw [← hm4]; rfl
  have sm4 : m4.2.1 = p4.2.1 := by rw [← hm4]; rfl
  have x54 := km4.ai x54 (fun e => by omega)
  have x55 := km4.ai x55 (fun e => by omega)
  have x56 := km4.ai x56 (fun e => by omega)
  have x57 := km4.ai x57 (fun e => by omega)
  have k0 : Ke B h m4 (fun q => q = zd_b0 B + 53) := (k0.tr ⟨kp4.1, fun a ha _ => kp4.2 a ha (fun z => z)⟩).tr km4
  conv => whnf
  refine ⟨⟨by decide, by decide, by omega, by show m4.2.1 + 10 ≤ _; omega⟩, ?_⟩
  generalize hp5 : zd_push m4 (zd_b0 B + m4.1) (.inr (.inl (0, Int32.toNatClampNeg 10, fun _ => 0))) (Int32.toNatClampNeg 10) = p5
  have kp5 : Ke B m4 p5 (fun _ => False) := by
    rw [← hp5]
    exact (Gw.push (S := fun _ => False)).ke
  have ep5 : p5.1 = m4.1 + 1 := by rw [← hp5]; rfl
  have sp5 : p5.2.1 = m4.2.1 + 10 := by rw [← hp5]; rfl
  have x54 := kp5.ai x54 (fun z => z)
  have x55 := kp5.ai x55 (fun z => z)
  have x56 := kp5.ai x56 (fun z => z)
  have x57 := kp5.ai x57 (fun z => z)
  have x58 : zd_Ai B p5 (zd_b0 B + 58) 0 10 (fun _ => 0) := by
    rw [← hp5, show zd_b0 B + 58 = zd_b0 B + m4.1 by omega]
    exact ⟨⟨by omega, by show zd_b0 B + m4.1 < zd_b0 B + (m4.1 + 1); omega⟩, if_pos rfl⟩
  have o := kp5.ob o (fun z => z)
  rw [show zd_b0 B + m4.1 = zd_b0 B + 58 by omega]
  conv => whnf
  refine ⟨_, o, Nat.le_of_ble_eq_true rfl, ⟨rfl, rfl⟩, ?_⟩
  generalize hm5 : zd_set p5 (zd_b0 B + 53) (.inl (8, ([.int 0, .ref (zd_b0 B + 54), .int 0, .ref (zd_b0 B + 55), .ref (zd_b0 B + 56), .ref (zd_b0 B + 57), .null, .null, .int 0, .long 0, .int 0, .int 0, .null, .int 0, .null, .int 0, .null, .int 0, .null, .int 0, .int 0] : List Value).set 6 (.ref (zd_b0 B + 58)))) = m5
  have o : zd_Ob B m5 (zd_b0 B + 53) 8 [.int 0, .ref (zd_b0 B + 54), .int 0, .ref (zd_b0 B + 55), .ref (zd_b0 B + 56), .ref (zd_b0 B + 57), .ref (zd_b0 B + 58), .null, .int 0, .long 0, .int 0, .int 0, .null, .int 0, .null, .int 0, .null, .int 0, .null, .int 0, .int 0] := by
    rw [← hm5]
    exact ⟨o.1, zd_set_s⟩
  have km5 : Ke B p5 m5 (fun q => q = zd_b0 B + 53) := by
    rw [← hm5]
    exact (Gw.set (S := fun q => q = zd_b0 B + 53) rfl).ke
  have em5 : m5.1 = p5.1 := by rw [← hm5]; rfl
  have sm5 : m5.2.1 = p5.2.1 := by rw [← hm5]; rfl
  have x54 := km5.ai x54 (fun e => by omega)
  have x55 := km5.ai x55 (fun e => by omega)
  have x56 := km5.ai x56 (fun e => by omega)
  have x57 := km5.ai x57 (fun e => by omega)
  have x58 := km5.ai x58 (fun e => by omega)
  have k0 : Ke B h m5 (fun q => q = zd_b0 B + 53) := (k0.tr ⟨kp5.1, fun a ha _ => kp5.2 a ha (fun z => z)⟩).tr km5
  conv => whnf
  refine ⟨⟨by decide, by decide, by omega, by show m5.2.1 + 4400 ≤ _; omega⟩, ?_⟩
  generalize hp6 : zd_push m5 (zd_b0 B + m5.1) (.inr (.inl (0, Int32.toNatClampNeg 4400, fun _ => 0))) (Int32.toNatClampNeg 4400) = p6
  have kp6 : Ke B m5 p6 (fun _ => False) := by
    rw [← hp6]
    exact (Gw.push (S := fun _ => False)).ke
  have ep6 : p6.1 = m5.1 + 1 := by rw [← hp6]; rfl
  have sp6 : p6.2.1 = m5.2.1 + 4400 := by rw [← hp6]; rfl
  have x54 := kp6.ai x54 (fun z => z)
  have x55 := kp6.ai x55 (fun z => z)
  have x56 := kp6.ai x56 (fun z => z)
  have x57 := kp6.ai x57 (fun z => z)
  have x58 := kp6.ai x58 (fun z => z)
  have x59 : zd_Ai B p6 (zd_b0 B + 59) 0 4400 (fun _ => 0) := by
    rw [← hp6, show zd_b0 B + 59 = zd_b0 B + m5.1 by omega]
    exact ⟨⟨by omega, by show zd_b0 B + m5.1 < zd_b0 B + (m5.1 + 1); omega⟩, if_pos rfl⟩
  have o := kp6.ob o (fun z => z)
  rw [show zd_b0 B + m5.1 = zd_b0 B + 59 by omega]
  conv => whnf
  refine ⟨_, o, Nat.le_of_ble_eq_true rfl, ⟨rfl, rfl⟩, ?_⟩
  generalize hm6 : zd_set p6 (zd_b0 B + 53) (.inl (8, ([.int 0, .ref (zd_b0 B + 54), .int 0, .ref (zd_b0 B + 55), .ref (zd_b0 B + 56), .ref (zd_b0 B + 57), .ref (zd_b0 B + 58), .null, .int 0, .long 0, .int 0, .int 0, .null, .int 0, .null, .int 0, .null, .int 0, .null, .int 0, .int 0] : List Value).set 7 (.ref (zd_b0 B + 59)))) = m6
  have o : zd_Ob B m6 (zd_b0 B + 53) 8 [.int 0, .ref (zd_b0 B + 54), .int 0, .ref (zd_b0 B + 55), .ref (zd_b0 B + 56), .ref (zd_b0 B + 57), .ref (zd_b0 B + 58), .ref (zd_b0 B + 59), .int 0, .long 0, .int 0, .int 0, .null, .int 0, .null, .int 0, .null, .int 0, .null, .int 0, .int 0] := by
    rw [← hm6]
    exact ⟨o.1, zd_set_s⟩
  have km6 : Ke B p6 m6 (fun q => q = zd_b0 B + 53) := by
    rw [← hm6]
    exact (Gw.set (S := fun q => q = zd_b0 B + 53) rfl).ke
  have em6 : m6.1 = p6.1 := by rw [← hm6]; rfl
  have sm6 : m6.2.1 = p6.2.1 := by rw [← hm6]; rfl
  have x54 := km6.ai x54 (fun e => by omega)
  have x55 := km6.ai x55 (fun e => by omega)
  have x56 := km6.ai x56 (fun e => by omega)
  have x57 := km6.ai x57 (fun e => by omega)
  have x58 := km6.ai x58 (fun e => by omega)
  have x59 := km6.ai x59 (fun e => by omega)
  have k0 : Ke B h m6 (fun q => q = zd_b0 B + 53) := (k0.tr ⟨kp6.1, fun a ha _ => kp6.2 a ha (fun z => z)⟩).tr km6
  conv => whnf
  refine ⟨⟨by decide, by decide, by omega, by show m6.2.1 + 4400 ≤ _; omega⟩, ?_⟩
  generalize hp7 : zd_push m6 (zd_b0 B + m6.1) (.inr (.inl (0, Int32.toNatClampNeg 4400, fun _ => 0))) (Int32.toNatClampNeg 4400) = p7
  have kp7 : Ke B m6 p7 (fun _ => False) := by
    rw [← hp7]
    exact (Gw.push (S := fun _ => False)).ke
  have ep7 : p7.1 = m6.1 + 1 := by rw [← hp7]; rfl
  have sp7 : p7.2.1 = m6.2.1 + 4400 := by rw [← hp7]; rfl
  have x54 := kp7.ai x54 (fun z => z)
  have x55 := kp7.ai x55 (fun z => z)
  have x56 := kp7.ai x56 (fun z => z)
  have x57 := kp7.ai x57 (fun z => z)
  have x58 := kp7.ai x58 (fun z => z)
  have x59 := kp7.ai x59 (fun z => z)
  have x60 : zd_Ai B p7 (zd_b0 B + 60) 0 4400 (fun _ => 0) := by
    rw [← hp7, show zd_b0 B + 60 = zd_b0 B + m6.1 by omega]
    exact ⟨⟨by omega, by show zd_b0 B + m6.1 < zd_b0 B + (m6.1 + 1); omega⟩, if_pos rfl⟩
  have o := kp7.ob o (fun z => z)
  rw [show zd_b0 B + m6.1 = zd_b0 B + 60 by omega]
  conv => whnf
  refine ⟨_, o, Nat.le_of_ble_eq_true rfl, ⟨rfl, rfl⟩, ?_⟩
  generalize hm7 : zd_set p7 (zd_b0 B + 53) (.inl (8, ([.int 0, .ref (zd_b0 B + 54), .int 0, .ref (zd_b0 B + 55), .ref (zd_b0 B + 56), .ref (zd_b0 B + 57), .ref (zd_b0 B + 58), .ref (zd_b0 B + 59), .int 0, .long 0, .int 0, .int 0, .null, .int 0, .null, .int 0, .null, .int 0, .null, .int 0, .int 0] : List Value).set 12 (.ref (zd_b0 B + 60)))) = m7
  have o : zd_Ob B m7 (zd_b0 B + 53) 8 [.int 0, .ref (zd_b0 B + 54), .int 0, .ref (zd_b0 B + 55), .ref (zd_b0 B + 56), .ref (zd_b0 B + 57), .ref (zd_b0 B + 58), .ref (zd_b0 B + 59), .int 0, .long 0, .int 0, .int 0, .ref (zd_b0 B + 60), .int 0, .null, .int 0, .null, .int 0, .null, .int 0, .int 0] := by
    rw [← hm7]
    exact ⟨o.1, zd_set_s⟩
  have km7 : Ke B p7 m7 (fun q => q = zd_b0 B + 53) := by
    rw [← hm7]
    exact (Gw.set (S := fun q => q = zd_b0 B + 53) rfl).ke
  have em7 : m7.1 = p7.1 := by rw [← hm7]; rfl
  have sm7 : m7.2.1 = p7.2.1 := by rw [← hm7]; rfl
  have x54 := km7.ai x54 (fun e => by omega)
  have x55 := km7.ai x55 (fun e => by omega)
  have x56 := km7.ai x56 (fun e => by omega)
  have x57 := km7.ai x57 (fun e => by omega)
  have x58 := km7.ai x58 (fun e => by omega)
  have x59 := km7.ai x59 (fun e => by omega)
  have x60 := km7.ai x60 (fun e => by omega)
  have k0 : Ke B h m7 (fun q => q = zd_b0 B + 53) := (k0.tr ⟨kp7.1, fun a ha _ => kp7.2 a ha (fun z => z)⟩).tr km7
  conv => whnf
  refine ⟨⟨by decide, by decide, by omega, by show m7.2.1 + 2200 ≤ _; omega⟩, ?_⟩
  generalize hp8 : zd_push m7 (zd_b0 B + m7.1) (.inr (.inl (0, Int32.toNatClampNeg 2200, fun _ => 0))) (Int32.toNatClampNeg 2200) = p8
  have kp8 : Ke B m7 p8 (fun _ => False) := by
    rw [← hp8]
    exact (Gw.push (S := fun _ => False)).ke
  have ep8 : p8.1 = m7.1 + 1 := by rw [← hp8]; rfl
  have sp8 : p8.2.1 = m7.2.1 + 2200 := by rw [← hp8]; rfl
  have x54 := kp8.ai x54 (fun z => z)
  have x55 := kp8.ai x55 (fun z => z)
  have x56 := kp8.ai x56 (fun z => z)
  have x57 := kp8.ai x57 (fun z => z)
  have x58 := kp8.ai x58 (fun z => z)
  have x59 := kp8.ai x59 (fun z => z)
  have x60 := kp8.ai x60 (fun z => z)
  have x61 : zd_Ai B p8 (zd_b0 B + 61) 0 2200 (fun _ => 0) := by
    rw [← hp8, show zd_b0 B + 61 = zd_b0 B + m7.1 by omega]
    exact ⟨⟨by omega, by show zd_b0 B + m7.1 < zd_b0 B + (m7.1 + 1); omega⟩, if_pos rfl⟩
  have o := kp8.ob o (fun z => z)
  rw [show zd_b0 B + m7.1 = zd_b0 B + 61 by omega]
  conv => whnf
  refine ⟨_, o, Nat.le_of_ble_eq_true rfl, ⟨rfl, rfl⟩, ?_⟩
  generalize hm8 : zd_set p8 (zd_b0 B + 53) (.inl (8, ([.int 0, .ref (zd_b0 B + 54), .int 0, .ref (zd_b0 B + 55), .ref (zd_b0 B + 56), .ref (zd_b0 B + 57), .ref (zd_b0 B + 58), .ref (zd_b0 B + 59), .int 0, .long 0, .int 0, .int 0, .ref (zd_b0 B + 60), .int 0, .null, .int 0, .null, .int 0, .null, .int 0, .int 0] : List Value).set 14 (.ref (zd_b0 B + 61)))) = m8
  have o : zd_Ob B m8 (zd_b0 B + 53) 8 [.int 0, .ref (zd_b0 B + 54), .int 0, .ref (zd_b0 B + 55), .ref (zd_b0 B + 56), .ref (zd_b0 B + 57), .ref (zd_b0 B + 58), .ref (zd_b0 B + 59), .int 0, .long 0, .int 0, .int 0, .ref (zd_b0 B + 60), .int 0, .ref (zd_b0 B + 61), .int 0, .null, .int 0, .null, .int 0, .int 0] := by
    rw [← hm8]
    exact ⟨o.1, zd_set_s⟩
  have km8 : Ke B p8 m8 (fun q => q = zd_b0 B + 53) := by
    rw [← hm8]
    exact (Gw.set (S := fun q => q = zd_b0 B + 53) rfl).ke
  have em8 : m8.1 = p8.1 := by rw [← hm8]; rfl
  have sm8 : m8.2.1 = p8.2.1 := by rw [← hm8]; rfl
  have x54 := km8.ai x54 (fun e => by omega)
  have x55 := km8.ai x55 (fun e => by omega)
  have x56 := km8.ai x56 (fun e => by omega)
  have x57 := km8.ai x57 (fun e => by omega)
  have x58 := km8.ai x58 (fun e => by omega)
  have x59 := km8.ai x59 (fun e => by omega)
  have x60 := km8.ai x60 (fun e => by omega)
  have x61 := km8.ai x61 (fun e => by omega)
  have k0 : Ke B h m8 (fun q => q = zd_b0 B + 53) := (k0.tr ⟨kp8.1, fun a ha _ => kp8.2 a ha (fun z => z)⟩).tr km8
  conv => whnf
  refine ⟨⟨by decide, by decide, by omega, by show m8.2.1 + 2202 ≤ _; omega⟩, ?_⟩
  generalize hp9 : zd_push m8 (zd_b0 B + m8.1) (.inr (.inl (0, Int32.toNatClampNeg 2202, fun _ => 0))) (Int32.toNatClampNeg 2202) = p9
  have kp9 : Ke B m8 p9 (fun _ => False) := by
    rw [← hp9]
    exact (Gw.push (S := fun _ => False)).ke
  have ep9 : p9.1 = m8.1 + 1 := by rw [← hp9]; rfl
  have sp9 : p9.2.1 = m8.2.1 + 2202 := by rw [← hp9]; rfl
  have x54 := kp9.ai x54 (fun z => z)
  have x55 := kp9.ai x55 (fun z => z)
  have x56 := kp9.ai x56 (fun z => z)
  have x57 := kp9.ai x57 (fun z => z)
  have x58 := kp9.ai x58 (fun z => z)
  have x59 := kp9.ai x59 (fun z => z)
  have x60 := kp9.ai x60 (fun z => z)
  have x61 := kp9.ai x61 (fun z => z)
  have x62 : zd_Ai B p9 (zd_b0 B + 62) 0 2202 (fun _ => 0) := by
    rw [← hp9, show zd_b0 B + 62 = zd_b0 B + m8.1 by omega]
    exact ⟨⟨by omega, by show zd_b0 B + m8.1 < zd_b0 B + (m8.1 + 1); omega⟩, if_pos rfl⟩
  have o := kp9.ob o (fun z => z)
  rw [show zd_b0 B + m8.1 = zd_b0 B + 62 by omega]
  conv => whnf
  refine ⟨_, o, Nat.le_of_ble_eq_true rfl, ⟨rfl, rfl⟩, ?_⟩
  generalize hm9 : zd_set p9 (zd_b0 B + 53) (.inl (8, ([.int 0, .ref (zd_b0 B + 54), .int 0, .ref (zd_b0 B + 55), .ref (zd_b0 B + 56), .ref (zd_b0 B + 57), .ref (zd_b0 B + 58), .ref (zd_b0 B + 59), .int 0, .long 0, .int 0, .int 0, .ref (zd_b0 B + 60), .int 0, .ref (zd_b0 B + 61), .int 0, .null, .int 0, .null, .int 0, .int 0] : List Value).set 16 (.ref (zd_b0 B + 62)))) = m9
  have o : zd_Ob B m9 (zd_b0 B + 53) 8 [.int 0, .ref (zd_b0 B + 54), .int 0, .ref (zd_b0 B + 55), .ref (zd_b0 B + 56), .ref (zd_b0 B + 57), .ref (zd_b0 B + 58), .ref (zd_b0 B + 59), .int 0, .long 0, .int 0, .int 0, .ref (zd_b0 B + 60), .int 0, .ref (zd_b0 B + 61), .int 0, .ref (zd_b0 B + 62), .int 0, .null, .int 0, .int 0] := by
    rw [← hm9]
    exact ⟨o.1, zd_set_s⟩
  have km9 : Ke B p9 m9 (fun q => q = zd_b0 B + 53) := by
    rw [← hm9]
    exact (Gw.set (S := fun q => q = zd_b0 B + 53) rfl).ke
  have em9 : m9.1 = p9.1 := by rw [← hm9]; rfl
  have sm9 : m9.2.1 = p9.2.1 := by rw [← hm9]; rfl
  have x54 := km9.ai x54 (fun e => by omega)
  have x55 := km9.ai x55 (fun e => by omega)
  have x56 := km9.ai x56 (fun e => by omega)
  have x57 := km9.ai x57 (fun e => by omega)
  have x58 := km9.ai x58 (fun e => by omega)
  have x59 := km9.ai x59 (fun e => by omega)
  have x60 := km9.ai x60 (fun e => by omega)
  have x61 := km9.ai x61 (fun e => by omega)
  have x62 := km9.ai x62 (fun e => by omega)
  have k0 : Ke B h m9 (fun q => q = zd_b0 B + 53) := (k0.tr ⟨kp9.1, fun a ha _ => kp9.2 a ha (fun z => z)⟩).tr km9
  conv => whnf
  refine ⟨⟨by decide, by decide, by omega, by show m9.2.1 + 12200 ≤ _; omega⟩, ?_⟩
  generalize hp10 : zd_push m9 (zd_b0 B + m9.1) (.inr (.inl (0, Int32.toNatClampNeg 12200, fun _ => 0))) (Int32.toNatClampNeg 12200) = p10
  have kp10 : Ke B m9 p10 (fun _ => False) := by
    rw [← hp10]
    exact (Gw.push (S := fun _ => False)).ke
  have ep10 : p10.1 = m9.1 + 1 := by rw [← hp10]; rfl
  have sp10 : p10.2.1 = m9.2.1 + 12200 := by rw [← hp10]; rfl
  have x54 := kp10.ai x54 (fun z => z)
  have x55 := kp10.ai x55 (fun z => z)
  have x56 := kp10.ai x56 (fun z => z)
  have x57 := kp10.ai x57 (fun z => z)
  have x58 := kp10.ai x58 (fun z => z)
  have x59 := kp10.ai x59 (fun z => z)
  have x60 := kp10.ai x60 (fun z => z)
  have x61 := kp10.ai x61 (fun z => z)
  have x62 := kp10.ai x62 (fun z => z)
  have x63 : zd_Ai B p10 (zd_b0 B + 63) 0 12200 (fun _ => 0) := by
    rw [← hp10, show zd_b0 B + 63 = zd_b0 B + m9.1 by omega]
    exact ⟨⟨by omega, by show zd_b0 B + m9.1 < zd_b0 B + (m9.1 + 1); omega⟩, if_pos rfl⟩
  have o := kp10.ob o (fun z => z)
  rw [show zd_b0 B + m9.1 = zd_b0 B + 63 by omega]
  conv => whnf
  refine ⟨_, o, Nat.le_of_ble_eq_true rfl, ⟨rfl, rfl⟩, ?_⟩
  generalize hm10 : zd_set p10 (zd_b0 B + 53) (.inl (8, ([.int 0, .ref (zd_b0 B + 54), .int 0, .ref (zd_b0 B + 55), .ref (zd_b0 B + 56), .ref (zd_b0 B + 57), .ref (zd_b0 B + 58), .ref (zd_b0 B + 59), .int 0, .long 0, .int 0, .int 0, .ref (zd_b0 B + 60), .int 0, .ref (zd_b0 B + 61), .int 0, .ref (zd_b0 B + 62), .int 0, .null, .int 0, .int 0] : List Value).set 18 (.ref (zd_b0 B + 63)))) = m10
  have o : zd_Ob B m10 (zd_b0 B + 53) 8 [.int 0, .ref (zd_b0 B + 54), .int 0, .ref (zd_b0 B + 55), .ref (zd_b0 B + 56), .ref (zd_b0 B + 57), .ref (zd_b0 B + 58), .ref (zd_b0 B + 59), .int 0, .long 0, .int 0, .int 0, .ref (zd_b0 B + 60), .int 0, .ref (zd_b0 B + 61), .int 0, .ref (zd_b0 B + 62), .int 0, .ref (zd_b0 B + 63), .int 0, .int 0] := by
    rw [← hm10]
    exact ⟨o.1, zd_set_s⟩
  have km10 : Ke B p10 m10 (fun q => q = zd_b0 B + 53) := by
    rw [← hm10]
    exact (Gw.set (S := fun q => q = zd_b0 B + 53) rfl).ke
  have em10 : m10.1 = p10.1 := by rw [← hm10]; rfl
  have sm10 : m10.2.1 = p10.2.1 := by rw [← hm10]; rfl
  have x54 := km10.ai x54 (fun e => by omega)
  have x55 := km10.ai x55 (fun e => by omega)
  have x56 := km10.ai x56 (fun e => by omega)
  have x57 := km10.ai x57 (fun e => by omega)
  have x58 := km10.ai x58 (fun e => by omega)
  have x59 := km10.ai x59 (fun e => by omega)
  have x60 := km10.ai x60 (fun e => by omega)
  have x61 := km10.ai x61 (fun e => by omega)
  have x62 := km10.ai x62 (fun e => by omega)
  have x63 := km10.ai x63 (fun e => by omega)
  have k0 : Ke B h m10 (fun q => q = zd_b0 B + 53) := (k0.tr ⟨kp10.1, fun a ha _ => kp10.2 a ha (fun z => z)⟩).tr km10
  conv => whnf
  refine ⟨?_, trivial⟩
  refine w_mo93 (h := m10) hG hl (fun h' g x56 => ?_) o 10 0 m10 (by omega) ⟨rfl, rfl, fun _ _ _ => rfl⟩ ⟨x56.1, x56.2.trans ?_⟩
  · have e := g.1
    have s := g.2.1
    have x54 := g.ke.ai x54 (fun e => by omega)
    have x55 := g.ke.ai x55 (fun e => by omega)
    have x57 := g.ke.ai x57 (fun e => by omega)
    have x58 := g.ke.ai x58 (fun e => by omega)
    have x59 := g.ke.ai x59 (fun e => by omega)
    have x60 := g.ke.ai x60 (fun e => by omega)
    have x61 := g.ke.ai x61 (fun e => by omega)
    have x62 := g.ke.ai x62 (fun e => by omega)
    have x63 := g.ke.ai x63 (fun e => by omega)
    have o := g.ke.ob o (fun e => by omega)
    refine hq h' ⟨0, 0, false, false, 0, 0, 0, 0, 0, fun _ => 0, fun j => if j < 10 then 1 else 0, fun _ => false, fun _ => 0, fun _ => 0, fun _ => 0, fun _ => 0, fun _ => 0, fun _ => 0, ⟨o, fun i n f e1 e2 => ?_⟩, ⟨fun _ => (by decide : (0 : Nat) < 10), fun r hr => ⟨?_, fun k hk => ?_, rfl, rfl⟩⟩, ⟨rfl, fun i hi => absurd hi (by show ¬ i < 0; omega)⟩, fun _ => (by decide : (0 : Nat) < 10)⟩ (by omega) (by omega) ⟨by omega, fun a ha hn => (g.2.2 a (by omega) (fun e => by omega)).trans (k0.2 a ha hn)⟩
    · match i with
      | 0 => cases e1; cases e2; exact x54
      | 1 => cases e1; cases e2; exact x55
      | 2 => cases e1; cases e2; exact x56
      | 3 => cases e1; cases e2; exact x57
      | 4 => cases e1; cases e2; exact x58
      | 5 => cases e1; cases e2; exact x59
      | 6 => cases e1; cases e2; exact x60
      | 7 => cases e1; cases e2; exact x61
      | 8 => cases e1; cases e2; exact x62
      | 9 => cases e1; cases e2; exact x63
      | i + 10 => simp [gM] at e1
    · show (if r < 10 then 1 else 0) = dg 0
      rw [if_pos hr, dg_0]
    · show 0 = td 0 (dg 0) k
      unfold td
      rw [Nat.zero_div]
  · congr 4
end YG

/-! the constructor of the desk -/
def R0 : Nat → zr := fun _ => (false, 0, 0)
theorem ROk0 : ROk R0 := fun r _ => ⟨by show dg 0 ≤ 1000; rw [dg_0]; decide, by show (-10000 : Int) ≤ 0; decide, by show (0 : Int) ≤ 10000; decide, fun q => by cases q⟩
def dRow (B : zd_B) (i : Nat) : Nat → Option Nat := fun j => if j < i then some (zd_b0 B + (2 + 3 * j)) else none
section YF
variable {l : Launch} {B : zd_B} {h : zd_H} {Q : zd_O → zd_H → Prop}
theorem w_desk40 (hG : zd_G B) (hl : l.stackTraces = false) {x1 : Int32} (h1 : h.1 = 32) (r2 : h.2.1 + 3815 ≤ zd_SB) (o : zd_Ob B h (zd_b0 B + 0) 0 [.ref (zd_b0 B + 1), .null, .null, .null, .null, .null, .null, .null]) (ar : zd_Ar B h (zd_b0 B + 1) 10 (fun j => some (zd_b0 B + (2 + 3 * j)))) (dc : ∀ j, j < 10 → Dc B h (2 + 3 * j) false 0 0)
    (hq : ∀ h', Cw B h' R0 (fun _ => 0) 0 [] 35 1100 → h'.1 = 53 → h'.2.1 = h.2.1 + 3815 → Q (.inl none) h') : zd_W l B m_De_init 40 [some (.ref (zd_b0 B + 0)), some (.int x1)] [] h Q := by
  have cb : (53 : Nat) ≤ zd_CB := by decide
  refine zd_go (ok_De_init hG hl) [] 60 ?_
  conv => whnf
  refine ⟨by omega, by omega, ?_⟩
  conv => whnf
  refine ⟨⟨rfl, Nat.le_of_ble_eq_true rfl, Nat.le_of_ble_eq_true rfl⟩, ?_⟩
  have p1 : zd_Ob B (zd_push h (zd_b0 B + h.1) (.inl (3, [.null, .int 0, .int 0, .int 0, .int 0, .int 0, .int 0, .long 0])) 8) (zd_b0 B + 32) 3 [.null, .int 0, .int 0, .int 0, .int 0, .int 0, .int 0, .long 0] := by
    rw [show 32 = h.1 by omega]
    exact ⟨⟨by omega, by show zd_b0 B + h.1 < zd_b0 B + (h.1 + 1); omega⟩, if_pos rfl⟩
  rw [show zd_b0 B + h.1 = zd_b0 B + 32 by omega] at p1 ⊢
  refine dr_init (k := 32) hG hl (by show h.1 + 1 = _; omega) p1 (by show h.1 + 1 + 1 ≤ _; omega) (by show h.2.1 + 8 + 1100 ≤ _; omega) (fun h1 g1 w1 w2 => ?_)
  have e1 : h1.1 = h.1 + 1 + 1 := g1.1
  have s1 : h1.2.1 = h.2.1 + 8 + 1100 := g1.2.1
  have k1 : Ke B h h1 (fun q => q = zd_b0 B + 0) := by
    refine ⟨by omega, fun a ha hn => ?_⟩
    rw [g1.2.2 a (by show a < zd_b0 B + (h.1 + 1); omega) (fun e => by omega)]
    exact if_neg (by omega)
  have o : zd_Ob B h1 (zd_b0 B + 0) 0 [.ref (zd_b0 B + 1), .null, .null, .null, .null, .null, .null, .null] := by
    refine ⟨⟨by omega, by omega⟩, ?_⟩
    rw [g1.2.2 (zd_b0 B + 0) (by show zd_b0 B + 0 < zd_b0 B + (h.1 + 1); omega) (fun e => by omega)]
    exact (if_neg (by omega)).trans o.2
  have ar := (k1).ar ar (fun e => by omega)
  have dc := fun j hj => (k1).dc (dc j hj) (fun e => by omega) (fun e => by omega) (fun e => by omega)
  have d1 := w1
  have d2 := w2
  conv => whnf
  refine ⟨_, o, Nat.le_of_ble_eq_true rfl, ⟨rfl, rfl⟩, ?_⟩
  generalize hm1 : zd_set h1 (zd_b0 B + 0) (.inl (0, ([.ref (zd_b0 B + 1), .null, .null, .null, .null, .null, .null, .null] : List Value).set 1 (.ref (zd_b0 B + 32)))) = m1
  have o : zd_Ob B m1 (zd_b0 B + 0) 0 [.ref (zd_b0 B + 1), .ref (zd_b0 B + 32), .null, .null, .null, .null, .null, .null] := by
    rw [← hm1]
    exact ⟨o.1, zd_set_s⟩
  have km1 : Ke B h1 m1 (fun q => q = zd_b0 B + 0) := by
    rw [← hm1]
    exact (Gw.set (S := fun q => q = zd_b0 B + 0) rfl).ke
  have em1 : m1.1 = h1.1 := by rw [← hm1]; rfl
  have sm1 : m1.2.1 = h1.2.1 := by rw [← hm1]; rfl
  have ar := (km1).ar ar (fun e => by omega)
  have dc := fun j hj => (km1).dc (dc j hj) (fun e => by omega) (fun e => by omega) (fun e => by omega)
  have d1 := (km1).ob d1 (fun e => by omega)
  have d2 := (km1).ai d2 (fun e => by omega)
  conv => whnf
  refine ⟨by omega, by omega, ?_⟩
  conv => whnf
  refine ⟨⟨rfl, Nat.le_of_ble_eq_true rfl, Nat.le_of_ble_eq_true rfl⟩, ?_⟩
  have p2 : zd_Ob B (zd_push m1 (zd_b0 B + m1.1) (.inl (7, [.null, .int 0])) 2) (zd_b0 B + 34) 7 [.null, .int 0] := by
    rw [show 34 = m1.1 by omega]
    exact ⟨⟨by omega, by show zd_b0 B + m1.1 < zd_b0 B + (m1.1 + 1); omega⟩, if_pos rfl⟩
  rw [show zd_b0 B + m1.1 = zd_b0 B + 34 by omega] at p2 ⊢
  refine te_init (k := 34) hG hl (by show m1.1 + 1 = _; omega) p2 (by show m1.1 + 1 + 1 ≤ _; omega) (by show m1.2.1 + 2 + 1100 ≤ _; omega) (fun h2 g2 w1 w2 => ?_)
  have e2 : h2.1 = m1.1 + 1 + 1 := g2.1
  have s2 : h2.2.1 = m1.2.1 + 2 + 1100 := g2.2.1
  have k2 : Ke B m1 h2 (fun q => q = zd_b0 B + 0) := by
    refine ⟨by omega, fun a ha hn => ?_⟩
    rw [g2.2.2 a (by show a < zd_b0 B + (m1.1 + 1); omega) (fun e => by omega)]
    exact if_neg (by omega)
  have o : zd_Ob B h2 (zd_b0 B + 0) 0 [.ref (zd_b0 B + 1), .ref (zd_b0 B + 32), .null, .null, .null, .null, .null, .null] := by
    refine ⟨⟨by omega, by omega⟩, ?_⟩
    rw [g2.2.2 (zd_b0 B + 0) (by show zd_b0 B + 0 < zd_b0 B + (m1.1 + 1); omega) (fun e => by omega)]
    exact (if_neg (by omega)).trans o.2
  have ar := (k2).ar ar (fun e => by omega)
  have dc := fun j hj => (k2).dc (dc j hj) (fun e => by omega) (fun e => by omega) (fun e => by omega)
  have d1 := (k2).ob d1 (fun e => by omega)
  have d2 := (k2).ai d2 (fun e => by omega)
  have t1 := w1
  have t2 := w2
  conv => whnf
  refine ⟨_, o, Nat.le_of_ble_eq_true rfl, ⟨rfl, rfl⟩, ?_⟩
  generalize hm2 : zd_set h2 (zd_b0 B + 0) (.inl (0, ([.ref (zd_b0 B + 1), .ref (zd_b0 B + 32), .null, .null, .null, .null, .null, .null] : List Value).set 2 (.ref (zd_b0 B + 34)))) = m2
  have o : zd_Ob B m2 (zd_b0 B + 0) 0 [.ref (zd_b0 B + 1), .ref (zd_b0 B + 32), .ref (zd_b0 B + 34), .null, .null, .null, .null, .null] := by
    rw [← hm2]
    exact ⟨o.1, zd_set_s⟩
  have km2 : Ke B h2 m2 (fun q => q = zd_b0 B + 0) := by
    rw [← hm2]
    exact (Gw.set (S := fun q => q = zd_b0 B + 0) rfl).ke
  have em2 : m2.1 = h2.1 := by rw [← hm2]; rfl
  have sm2 : m2.2.1 = h2.2.1 := by rw [← hm2]; rfl
  have ar := (km2).ar ar (fun e => by omega)
  have dc := fun j hj => (km2).dc (dc j hj) (fun e => by omega) (fun e => by omega) (fun e => by omega)
  have d1 := (km2).ob d1 (fun e => by omega)
  have d2 := (km2).ai d2 (fun e => by omega)
  have t1 := (km2).ob t1 (fun e => by omega)
  have t2 := (km2).ai t2 (fun e => by omega)
  conv => whnf
  refine ⟨by omega, by omega, ?_⟩
  conv => whnf
  refine ⟨⟨rfl, Nat.le_of_ble_eq_true rfl, Nat.le_of_ble_eq_true rfl⟩, ?_⟩
  have p3 : zd_Ob B (zd_push m2 (zd_b0 B + m2.1) (.inl (2, [.null])) 1) (zd_b0 B + 36) 2 [.null] := by
    rw [show 36 = m2.1 by omega]
    exact ⟨⟨by omega, by show zd_b0 B + m2.1 < zd_b0 B + (m2.1 + 1); omega⟩, if_pos rfl⟩
  rw [show zd_b0 B + m2.1 = zd_b0 B + 36 by omega] at p3 ⊢
  refine dv_init (k := 36) hG hl (by show m2.1 + 1 = _; omega) p3 (by show m2.1 + 1 + 2 ≤ _; omega) (by show m2.2.1 + 1 + 228 ≤ _; omega) (fun h3 g3 w1 w2 => ?_)
  have e3 : h3.1 = m2.1 + 1 + 2 := g3.1
  have s3 : h3.2.1 = m2.2.1 + 1 + 228 := g3.2.1
  have k3 : Ke B m2 h3 (fun q => q = zd_b0 B + 0) := by
    refine ⟨by omega, fun a ha hn => ?_⟩
    rw [g3.2.2 a (by show a < zd_b0 B + (m2.1 + 1); omega) (fun e => by omega)]
    exact if_neg (by omega)
  have o : zd_Ob B h3 (zd_b0 B + 0) 0 [.ref (zd_b0 B + 1), .ref (zd_b0 B + 32), .ref (zd_b0 B + 34), .null, .null, .null, .null, .null] := by
    refine ⟨⟨by omega, by omega⟩, ?_⟩
    rw [g3.2.2 (zd_b0 B + 0) (by show zd_b0 B + 0 < zd_b0 B + (m2.1 + 1); omega) (fun e => by omega)]
    exact (if_neg (by omega)).trans o.2
  have ar := (k3).ar ar (fun e => by omega)
  have dc := fun j hj => (k3).dc (dc j hj) (fun e => by omega) (fun e => by omega) (fun e => by omega)
  have d1 := (k3).ob d1 (fun e => by omega)
  have d2 := (k3).ai d2 (fun e => by omega)
  have t1 := (k3).ob t1 (fun e => by omega)
  have t2 := (k3).ai t2 (fun e => by omega)
  have v1 := w1
  have v2 := w2
  conv => whnf
  refine ⟨_, o, Nat.le_of_ble_eq_true rfl, ⟨rfl, rfl⟩, ?_⟩
  generalize hm3 : zd_set h3 (zd_b0 B + 0) (.inl (0, ([.ref (zd_b0 B + 1), .ref (zd_b0 B + 32), .ref (zd_b0 B + 34), .null, .null, .null, .null, .null] : List Value).set 3 (.ref (zd_b0 B + 36)))) = m3
  have o : zd_Ob B m3 (zd_b0 B + 0) 0 [.ref (zd_b0 B + 1), .ref (zd_b0 B + 32), .ref (zd_b0 B + 34), .ref (zd_b0 B + 36), .null, .null, .null, .null] := by
    rw [← hm3]
    exact ⟨o.1, zd_set_s⟩
  have km3 : Ke B h3 m3 (fun q => q = zd_b0 B + 0) := by
    rw [← hm3]
    exact (Gw.set (S := fun q => q = zd_b0 B + 0) rfl).ke
  have em3 : m3.1 = h3.1 := by rw [← hm3]; rfl
  have sm3 : m3.2.1 = h3.2.1 := by rw [← hm3]; rfl
  have ar := (km3).ar ar (fun e => by omega)
  have dc := fun j hj => (km3).dc (dc j hj) (fun e => by omega) (fun e => by omega) (fun e => by omega)
  have d1 := (km3).ob d1 (fun e => by omega)
  have d2 := (km3).ai d2 (fun e => by omega)
  have t1 := (km3).ob t1 (fun e => by omega)
  have t2 := (km3).ai t2 (fun e => by omega)
  have v1 := (km3).ob v1 (fun e => by omega)
  have v2 := (km3).nv v2 (fun e => by omega) (fun e => by omega)
  conv => whnf
  refine ⟨by omega, by omega, ?_⟩
  conv => whnf
  have oy : zd_Ob B (zd_push m3 (zd_b0 B + m3.1) (.inl (5, [.null, .null, .null, .null])) 4) (zd_b0 B + 0) 0 [.ref (zd_b0 B + 1), .ref (zd_b0 B + 32), .ref (zd_b0 B + 34), .ref (zd_b0 B + 36), .null, .null, .null, .null] := (Gw.push (S := fun _ => False)).ke.ob o (fun z => z)
  refine ⟨_, oy, ?_⟩
  conv => whnf
  refine ⟨⟨rfl, Nat.le_of_ble_eq_true rfl, Nat.le_of_ble_eq_true rfl⟩, ?_⟩
  have p4 : zd_Ob B (zd_push m3 (zd_b0 B + m3.1) (.inl (5, [.null, .null, .null, .null])) 4) (zd_b0 B + 39) 5 [.null, .null, .null, .null] := by
    rw [show 39 = m3.1 by omega]
    exact ⟨⟨by omega, by show zd_b0 B + m3.1 < zd_b0 B + (m3.1 + 1); omega⟩, if_pos rfl⟩
  rw [show zd_b0 B + m3.1 = zd_b0 B + 39 by omega] at p4 ⊢
  refine ro_init (d := 36) (k := 39) hG hl (by show m3.1 + 1 = _; omega) p4 (by show m3.1 + 1 + 6 ≤ _; omega) (by show m3.2.1 + 4 + 684 ≤ _; omega) (fun h4 g4 w1 w2 w3 w4 => ?_)
  have e4 : h4.1 = m3.1 + 1 + 6 := g4.1
  have s4 : h4.2.1 = m3.2.1 + 4 + 684 := g4.2.1
  have k4 : Ke B m3 h4 (fun q => q = zd_b0 B + 0) := by
    refine ⟨by omega, fun a ha hn => ?_⟩
    rw [g4.2.2 a (by show a < zd_b0 B + (m3.1 + 1); omega) (fun e => by omega)]
    exact if_neg (by omega)
  have o : zd_Ob B h4 (zd_b0 B + 0) 0 [.ref (zd_b0 B + 1), .ref (zd_b0 B + 32), .ref (zd_b0 B + 34), .ref (zd_b0 B + 36), .null, .null, .null, .null] := by
    refine ⟨⟨by omega, by omega⟩, ?_⟩
    rw [g4.2.2 (zd_b0 B + 0) (by show zd_b0 B + 0 < zd_b0 B + (m3.1 + 1); omega) (fun e => by omega)]
    exact (if_neg (by omega)).trans o.2
  have ar := (k4).ar ar (fun e => by omega)
  have dc := fun j hj => (k4).dc (dc j hj) (fun e => by omega) (fun e => by omega) (fun e => by omega)
  have d1 := (k4).ob d1 (fun e => by omega)
  have d2 := (k4).ai d2 (fun e => by omega)
  have t1 := (k4).ob t1 (fun e => by omega)
  have t2 := (k4).ai t2 (fun e => by omega)
  have v1 := (k4).ob v1 (fun e => by omega)
  have v2 := (k4).nv v2 (fun e => by omega) (fun e => by omega)
  have q1 := w1
  have q2 := w2
  have q3 := w3
  have q4 := w4
  conv => whnf
  refine ⟨_, o, Nat.le_of_ble_eq_true rfl, ⟨rfl, rfl⟩, ?_⟩
  generalize hm4 : zd_set h4 (zd_b0 B + 0) (.inl (0, ([.ref (zd_b0 B + 1), .ref (zd_b0 B + 32), .ref (zd_b0 B + 34), .ref (zd_b0 B + 36), .null, .null, .null, .null] : List Value).set 4 (.ref (zd_b0 B + 39)))) = m4
  have o : zd_Ob B m4 (zd_b0 B + 0) 0 [.ref (zd_b0 B + 1), .ref (zd_b0 B + 32), .ref (zd_b0 B + 34), .ref (zd_b0 B + 36), .ref (zd_b0 B + 39), .null, .null, .null] := by
    rw [← hm4]
    exact ⟨o.1, zd_set_s⟩
  have km4 : Ke B h4 m4 (fun q => q = zd_b0 B + 0) := by
    rw [← hm4]
    exact (Gw.set (S := fun q => q = zd_b0 B + 0) rfl).ke
  have em4 : m4.1 = h4.1 := by rw [← hm4]; rfl
  have sm4 : m4.2.1 = h4.2.1 := by rw [← hm4]; rfl
  have ar := (km4).ar ar (fun e => by omega)
  have dc := fun j hj => (km4).dc (dc j hj) (fun e => by omega) (fun e => by omega) (fun e => by omega)
  have d1 := (km4).ob d1 (fun e => by omega)
  have d2 := (km4).ai d2 (fun e => by omega)
  have t1 := (km4).ob t1 (fun e => by omega)
  have t2 := (km4).ai t2 (fun e => by omega)
  have v1 := (km4).ob v1 (fun e => by omega)
  have v2 := (km4).nv v2 (fun e => by omega) (fun e => by omega)
  have q1 := (km4).ob q1 (fun e => by omega)
  have q2 := (km4).nv q2 (fun e => by omega) (fun e => by omega)
  have q3 := (km4).nv q3 (fun e => by omega) (fun e => by omega)
  have q4 := (km4).nv q4 (fun e => by omega) (fun e => by omega)
  conv => whnf
  refine ⟨by omega, by omega, ?_⟩
  conv => whnf
  refine ⟨⟨rfl, Nat.le_of_ble_eq_true rfl, Nat.le_of_ble_eq_true rfl⟩, ?_⟩
  have p5 : zd_Ob B (zd_push m4 (zd_b0 B + m4.1) (.inl (6, [.null, .int 0, .int 0, .int 0])) 4) (zd_b0 B + 46) 6 [.null, .int 0, .int 0, .int 0] := by
    rw [show 46 = m4.1 by omega]
    exact ⟨⟨by omega, by show zd_b0 B + m4.1 < zd_b0 B + (m4.1 + 1); omega⟩, if_pos rfl⟩
  rw [show zd_b0 B + m4.1 = zd_b0 B + 46 by omega] at p5 ⊢
  refine ru_init (k := 46) hG hl (by show m4.1 + 1 = _; omega) p5 (by show m4.1 + 1 + 2 ≤ _; omega) (by show m4.2.1 + 4 + 228 ≤ _; omega) (fun h5 g5 w1 w2 => ?_)
  have e5 : h5.1 = m4.1 + 1 + 2 := g5.1
  have s5 : h5.2.1 = m4.2.1 + 4 + 228 := g5.2.1
  have k5 : Ke B m4 h5 (fun q => q = zd_b0 B + 0) := by
    refine ⟨by omega, fun a ha hn => ?_⟩
    rw [g5.2.2 a (by show a < zd_b0 B + (m4.1 + 1); omega) (fun e => by omega)]
    exact if_neg (by omega)
  have o : zd_Ob B h5 (zd_b0 B + 0) 0 [.ref (zd_b0 B + 1), .ref (zd_b0 B + 32), .ref (zd_b0 B + 34), .ref (zd_b0 B + 36), .ref (zd_b0 B + 39), .null, .null, .null] := by
    refine ⟨⟨by omega, by omega⟩, ?_⟩
    rw [g5.2.2 (zd_b0 B + 0) (by show zd_b0 B + 0 < zd_b0 B + (m4.1 + 1); omega) (fun e => by omega)]
    exact (if_neg (by omega)).trans o.2
  have ar := (k5).ar ar (fun e => by omega)
  have dc := fun j hj => (k5).dc (dc j hj) (fun e => by omega) (fun e => by omega) (fun e => by omega)
  have d1 := (k5).ob d1 (fun e => by omega)
  have d2 := (k5).ai d2 (fun e => by omega)
  have t1 := (k5).ob t1 (fun e => by omega)
  have t2 := (k5).ai t2 (fun e => by omega)
  have v1 := (k5).ob v1 (fun e => by omega)
  have v2 := (k5).nv v2 (fun e => by omega) (fun e => by omega)
  have q1 := (k5).ob q1 (fun e => by omega)
  have q2 := (k5).nv q2 (fun e => by omega) (fun e => by omega)
  have q3 := (k5).nv q3 (fun e => by omega) (fun e => by omega)
  have q4 := (k5).nv q4 (fun e => by omega) (fun e => by omega)
  have u1 := w1
  have u2 := w2
  conv => whnf
  refine ⟨_, o, Nat.le_of_ble_eq_true rfl, ⟨rfl, rfl⟩, ?_⟩
  generalize hm5 : zd_set h5 (zd_b0 B + 0) (.inl (0, ([.ref (zd_b0 B + 1), .ref (zd_b0 B + 32), .ref (zd_b0 B + 34), .ref (zd_b0 B + 36), .ref (zd_b0 B + 39), .null, .null, .null] : List Value).set 5 (.ref (zd_b0 B + 46)))) = m5
  have o : zd_Ob B m5 (zd_b0 B + 0) 0 [.ref (zd_b0 B + 1), .ref (zd_b0 B + 32), .ref (zd_b0 B + 34), .ref (zd_b0 B + 36), .ref (zd_b0 B + 39), .ref (zd_b0 B + 46), .null, .null] := by
    rw [← hm5]
    exact ⟨o.1, zd_set_s⟩
  have km5 : Ke B h5 m5 (fun q => q = zd_b0 B + 0) := by
    rw [← hm5]
    exact (Gw.set (S := fun q => q = zd_b0 B + 0) rfl).ke
  have em5 : m5.1 = h5.1 := by rw [← hm5]; rfl
  have sm5 : m5.2.1 = h5.2.1 := by rw [← hm5]; rfl
  have ar := (km5).ar ar (fun e => by omega)
  have dc := fun j hj => (km5).dc (dc j hj) (fun e => by omega) (fun e => by omega) (fun e => by omega)
  have d1 := (km5).ob d1 (fun e => by omega)
  have d2 := (km5).ai d2 (fun e => by omega)
  have t1 := (km5).ob t1 (fun e => by omega)
  have t2 := (km5).ai t2 (fun e => by omega)
  have v1 := (km5).ob v1 (fun e => by omega)
  have v2 := (km5).nv v2 (fun e => by omega) (fun e => by omega)
  have q1 := (km5).ob q1 (fun e => by omega)
  have q2 := (km5).nv q2 (fun e => by omega) (fun e => by omega)
  have q3 := (km5).nv q3 (fun e => by omega) (fun e => by omega)
  have q4 := (km5).nv q4 (fun e => by omega) (fun e => by omega)
  have u1 := (km5).ob u1 (fun e => by omega)
  have u2 := (km5).nv u2 (fun e => by omega) (fun e => by omega)
  conv => whnf
  refine ⟨by omega, by omega, ?_⟩
  conv => whnf
  refine ⟨⟨rfl, Nat.le_of_ble_eq_true rfl, Nat.le_of_ble_eq_true rfl⟩, ?_⟩
  refine na_new (y := m_Dc_init) (pc := 0) (f := fun _ => True) (n := 226) hG hl (by decide) (by omega) (by omega) (fun h6 g6 w1 => ?_)
  have e6 : h6.1 = m5.1 + 2 := g6.1
  have s6 : h6.2.1 = m5.2.1 + (2 + 226) := g6.2.1
  have k6 : Ke B m5 h6 (fun q => q = zd_b0 B + 0) := ⟨by omega, fun a ha hn => g6.2.2 a ha (fun z => z)⟩
  have o := g6.ke.ob o (fun z => z)
  have w1 : Nv B h6 49 226 0 := by
    rw [show 49 = m5.1 by omega]
    exact w1
  have ar := (k6).ar ar (fun e => by omega)
  have dc := fun j hj => (k6).dc (dc j hj) (fun e => by omega) (fun e => by omega) (fun e => by omega)
  have d1 := (k6).ob d1 (fun e => by omega)
  have d2 := (k6).ai d2 (fun e => by omega)
  have t1 := (k6).ob t1 (fun e => by omega)
  have t2 := (k6).ai t2 (fun e => by omega)
  have v1 := (k6).ob v1 (fun e => by omega)
  have v2 := (k6).nv v2 (fun e => by omega) (fun e => by omega)
  have q1 := (k6).ob q1 (fun e => by omega)
  have q2 := (k6).nv q2 (fun e => by omega) (fun e => by omega)
  have q3 := (k6).nv q3 (fun e => by omega) (fun e => by omega)
  have q4 := (k6).nv q4 (fun e => by omega) (fun e => by omega)
  have u1 := (k6).ob u1 (fun e => by omega)
  have u2 := (k6).nv u2 (fun e => by omega) (fun e => by omega)
  have o1 := w1
  conv => whnf
  rw [show zd_b0 B + m5.1 = zd_b0 B + 49 by omega]
  refine ⟨_, o, Nat.le_of_ble_eq_true rfl, ⟨rfl, rfl⟩, ?_⟩
  generalize hm6 : zd_set h6 (zd_b0 B + 0) (.inl (0, ([.ref (zd_b0 B + 1), .ref (zd_b0 B + 32), .ref (zd_b0 B + 34), .ref (zd_b0 B + 36), .ref (zd_b0 B + 39), .ref (zd_b0 B + 46), .null, .null] : List Value).set 6 (.ref (zd_b0 B + 49)))) = m6
  have o : zd_Ob B m6 (zd_b0 B + 0) 0 [.ref (zd_b0 B + 1), .ref (zd_b0 B + 32), .ref (zd_b0 B + 34), .ref (zd_b0 B + 36), .ref (zd_b0 B + 39), .ref (zd_b0 B + 46), .ref (zd_b0 B + 49), .null] := by
    rw [← hm6]
    exact ⟨o.1, zd_set_s⟩
  have km6 : Ke B h6 m6 (fun q => q = zd_b0 B + 0) := by
    rw [← hm6]
    exact (Gw.set (S := fun q => q = zd_b0 B + 0) rfl).ke
  have em6 : m6.1 = h6.1 := by rw [← hm6]; rfl
  have sm6 : m6.2.1 = h6.2.1 := by rw [← hm6]; rfl
  have ar := (km6).ar ar (fun e => by omega)
  have dc := fun j hj => (km6).dc (dc j hj) (fun e => by omega) (fun e => by omega) (fun e => by omega)
  have d1 := (km6).ob d1 (fun e => by omega)
  have d2 := (km6).ai d2 (fun e => by omega)
  have t1 := (km6).ob t1 (fun e => by omega)
  have t2 := (km6).ai t2 (fun e => by omega)
  have v1 := (km6).ob v1 (fun e => by omega)
  have v2 := (km6).nv v2 (fun e => by omega) (fun e => by omega)
  have q1 := (km6).ob q1 (fun e => by omega)
  have q2 := (km6).nv q2 (fun e => by omega) (fun e => by omega)
  have q3 := (km6).nv q3 (fun e => by omega) (fun e => by omega)
  have q4 := (km6).nv q4 (fun e => by omega) (fun e => by omega)
  have u1 := (km6).ob u1 (fun e => by omega)
  have u2 := (km6).nv u2 (fun e => by omega) (fun e => by omega)
  have o1 := (km6).nv o1 (fun e => by omega) (fun e => by omega)
  conv => whnf
  refine ⟨by omega, by omega, ?_⟩
  conv => whnf
  refine ⟨⟨rfl, Nat.le_of_ble_eq_true rfl, Nat.le_of_ble_eq_true rfl⟩, ?_⟩
  refine na_new (y := m_Dc_init) (pc := 0) (f := fun _ => True) (n := 226) hG hl (by decide) (by omega) (by omega) (fun h7 g7 w1 => ?_)
  have e7 : h7.1 = m6.1 + 2 := g7.1
  have s7 : h7.2.1 = m6.2.1 + (2 + 226) := g7.2.1
  have k7 : Ke B m6 h7 (fun q => q = zd_b0 B + 0) := ⟨by omega, fun a ha hn => g7.2.2 a ha (fun z => z)⟩
  have o := g7.ke.ob o (fun z => z)
  have w1 : Nv B h7 51 226 0 := by
    rw [show 51 = m6.1 by omega]
    exact w1
  have ar := (k7).ar ar (fun e => by omega)
  have dc := fun j hj => (k7).dc (dc j hj) (fun e => by omega) (fun e => by omega) (fun e => by omega)
  have d1 := (k7).ob d1 (fun e => by omega)
  have d2 := (k7).ai d2 (fun e => by omega)
  have t1 := (k7).ob t1 (fun e => by omega)
  have t2 := (k7).ai t2 (fun e => by omega)
  have v1 := (k7).ob v1 (fun e => by omega)
  have v2 := (k7).nv v2 (fun e => by omega) (fun e => by omega)
  have q1 := (k7).ob q1 (fun e => by omega)
  have q2 := (k7).nv q2 (fun e => by omega) (fun e => by omega)
  have q3 := (k7).nv q3 (fun e => by omega) (fun e => by omega)
  have q4 := (k7).nv q4 (fun e => by omega) (fun e => by omega)
  have u1 := (k7).ob u1 (fun e => by omega)
  have u2 := (k7).nv u2 (fun e => by omega) (fun e => by omega)
  have o1 := (k7).nv o1 (fun e => by omega) (fun e => by omega)
  have c1 := w1
  conv => whnf
  rw [show zd_b0 B + m6.1 = zd_b0 B + 51 by omega]
  refine ⟨_, o, Nat.le_of_ble_eq_true rfl, ⟨rfl, rfl⟩, ?_⟩
  generalize hm7 : zd_set h7 (zd_b0 B + 0) (.inl (0, ([.ref (zd_b0 B + 1), .ref (zd_b0 B + 32), .ref (zd_b0 B + 34), .ref (zd_b0 B + 36), .ref (zd_b0 B + 39), .ref (zd_b0 B + 46), .ref (zd_b0 B + 49), .null] : List Value).set 7 (.ref (zd_b0 B + 51)))) = m7
  have o : zd_Ob B m7 (zd_b0 B + 0) 0 [.ref (zd_b0 B + 1), .ref (zd_b0 B + 32), .ref (zd_b0 B + 34), .ref (zd_b0 B + 36), .ref (zd_b0 B + 39), .ref (zd_b0 B + 46), .ref (zd_b0 B + 49), .ref (zd_b0 B + 51)] := by
    rw [← hm7]
    exact ⟨o.1, zd_set_s⟩
  have km7 : Ke B h7 m7 (fun q => q = zd_b0 B + 0) := by
    rw [← hm7]
    exact (Gw.set (S := fun q => q = zd_b0 B + 0) rfl).ke
  have em7 : m7.1 = h7.1 := by rw [← hm7]; rfl
  have sm7 : m7.2.1 = h7.2.1 := by rw [← hm7]; rfl
  have ar := (km7).ar ar (fun e => by omega)
  have dc := fun j hj => (km7).dc (dc j hj) (fun e => by omega) (fun e => by omega) (fun e => by omega)
  have d1 := (km7).ob d1 (fun e => by omega)
  have d2 := (km7).ai d2 (fun e => by omega)
  have t1 := (km7).ob t1 (fun e => by omega)
  have t2 := (km7).ai t2 (fun e => by omega)
  have v1 := (km7).ob v1 (fun e => by omega)
  have v2 := (km7).nv v2 (fun e => by omega) (fun e => by omega)
  have q1 := (km7).ob q1 (fun e => by omega)
  have q2 := (km7).nv q2 (fun e => by omega) (fun e => by omega)
  have q3 := (km7).nv q3 (fun e => by omega) (fun e => by omega)
  have q4 := (km7).nv q4 (fun e => by omega) (fun e => by omega)
  have u1 := (km7).ob u1 (fun e => by omega)
  have u2 := (km7).nv u2 (fun e => by omega) (fun e => by omega)
  have o1 := (km7).nv o1 (fun e => by omega) (fun e => by omega)
  have c1 := (km7).nv c1 (fun e => by omega) (fun e => by omega)
  conv => whnf
  refine ⟨hq _ ⟨⟨(0, 0, 0), some 0, some 0, some 0, ⟨o, ar⟩, fun i hi => dc i hi, u1, u2, o1, c1, v1, v2.s, q1, q2.s, q3.s, q4.s⟩, ⟨false, 0, 0, 0, 0, 0, ⟨d1, fun i n f e1 e2 => ?_⟩⟩, ⟨fun _ => 0, t1, t2, ⟨rfl, fun i hi => absurd hi (by show ¬ i < 0; omega)⟩, Nat.zero_le _⟩, Or.inl ⟨rfl, rfl⟩⟩ (by omega) (by omega), trivial⟩
  cases i with
  | zero => cases e1; cases e2; exact d2
  | succ i => cases e1
theorem zd_W.rep {y : zd_Y} {pc : Nat} {ls : zd_V} {st : List Value} {h' : zd_H} (e1 : h'.1 = h.1) (e2 : h'.2.1 = h.2.1) (r : ∀ H, zd_R B h H → zd_R B h' H) (k : zd_W l B y pc ls st h' Q) : zd_W l B y pc ls st h Q := by
  intro p e R s m args below meth c c0 n0 hX hc H locs arr hR hL hA
  have := k p e R s m args below meth c c0 n0 hX (by rw [e1, e2]; exact hc) H locs arr (r H hR) hL hA
  rw [e1, e2] at this
  exact this
theorem arrV_cong {cA : ClassId} {n : Nat} {f g : Nat → Value} (h : ∀ j, j < n → f j = g j) : arrV cA n f = arrV cA n g := by
  unfold arrV
  congr 2
  funext j
  exact h j.1 j.2
theorem w_desk15 (hG : zd_G B) (hl : l.stackTraces = false) {s0 : Nat} (r2 : s0 + 4985 ≤ zd_SB)
    (hq : ∀ h', Cw B h' R0 (fun _ => 0) 0 [] 35 1100 → h'.1 = 53 → h'.2.1 = s0 + 4985 → Q (.inl none) h') :
    ∀ (d i : Nat) (h : zd_H), i + d = 10 → h.1 = 2 + 3 * i → h.2.1 = s0 + 117 * i → zd_Ob B h (zd_b0 B + 0) 0 [.ref (zd_b0 B + 1), .null, .null, .null, .null, .null, .null, .null] → zd_Ar B h (zd_b0 B + 1) 10 (dRow B i) → (∀ j, j < i → Dc B h (2 + 3 * j) false 0 0) → zd_W l B m_De_init 15 [some (.ref (zd_b0 B + 0)), some (.int (nI i))] [] h Q := by
  have cb : (53 : Nat) ≤ zd_CB := by decide
  intro d
  induction d with
  | zero =>
    intro i h hi c1 c2 o ar dc
    have e : i = 10 := by omega
    subst e
    refine zd_go (ok_De_init hG hl) [40] 60 ?_
    conv => whnf
    refine ⟨fun _ => ?_, fun z => absurd (by decide) z⟩
    refine ⟨?_, trivial⟩
    have kz : Ke B h (zd_set h (zd_b0 B + 1) (.inr (.inr (.inr (10, fun j => some (zd_b0 B + (2 + 3 * j))))))) (fun q => q = zd_b0 B + 1) := (Gw.set (S := fun q => q = zd_b0 B + 1) rfl).ke
    refine zd_W.rep (h' := zd_set h (zd_b0 B + 1) (.inr (.inr (.inr (10, fun j => some (zd_b0 B + (2 + 3 * j))))))) rfl rfl (fun H hR => hR.set ar.1 ?_ rfl (fun _ _ => rfl)) ?_
    · have := hR.2.1 _ ar.1
      rw [ar.2] at this
      have this : H[zd_b0 B + 1]? = some (arrV (zd_aK B 4) 10 (fun j => va_rf (dRow B 10 j))) := this
      show H[zd_b0 B + 1]? = some (arrV (zd_aK B 4) 10 (fun j => va_rf (some (zd_b0 B + (2 + 3 * j)))))
      rw [this]
      exact congrArg some (arrV_cong (fun j hj => by unfold dRow; rw [if_pos hj]))
    · exact w_desk40 hG hl (by show h.1 = 32; omega) (by show h.2.1 + 3815 ≤ _; omega) (kz.ob o (fun e => by omega)) ⟨ar.1, zd_set_s⟩ (fun j hj => kz.dc (dc j hj) (fun e => by omega) (fun e => by omega) (fun e => by omega)) (fun h' w a b => hq h' w a (by rw [b]; show h.2.1 + 3815 = _; omega))
  | succ d ih =>
    intro i h hi c1 c2 o ar dc
    refine zd_go (ok_De_init hG hl) [15] 60 ?_
    conv => whnf
    refine ⟨fun z => absurd ((nI_leI (a := 10) (by decide) (by omega)).mp z) (by omega), fun _ => ?_⟩
    conv => whnf
    refine ⟨_, o, ?_⟩
    conv => whnf
    refine ⟨by omega, by omega, ?_⟩
    conv => whnf
    refine ⟨⟨rfl, Nat.le_of_ble_eq_true rfl, Nat.le_of_ble_eq_true rfl⟩, ?_⟩
    have p1 : zd_Ob B (zd_push h (zd_b0 B + h.1) (.inl (1, [.null, .int 0, .int 0])) 3) (zd_b0 B + (2 + 3 * i)) 1 [.null, .int 0, .int 0] := by
      rw [show 2 + 3 * i = h.1 by omega]
      exact ⟨⟨by omega, by show zd_b0 B + h.1 < zd_b0 B + (h.1 + 1); omega⟩, if_pos rfl⟩
    rw [show zd_b0 B + h.1 = zd_b0 B + (2 + 3 * i) by omega] at p1 ⊢
    refine dc_init (k := 2 + 3 * i) hG hl (by show h.1 + 1 = _; omega) p1 (by show h.1 + 1 + 2 ≤ _; omega) (by show h.2.1 + 3 + 114 ≤ _; omega) (fun h1 g1 w1 => ?_)
    have e1 : h1.1 = h.1 + 1 + 2 := g1.1
    have s1 : h1.2.1 = h.2.1 + 3 + 114 := g1.2.1
    have k1 : Ke B h h1 (fun _ => False) := by
      refine ⟨by omega, fun a ha hn => ?_⟩
      rw [g1.2.2 a (by show a < zd_b0 B + (h.1 + 1); omega) (fun e => by omega)]
      exact if_neg (by omega)
    have ar1 := k1.ar ar (fun z => z)
    conv => whnf
    refine ⟨_, _, _, ar1, vp_in_nI (by omega) (by decide), w1.1, ?_⟩
    rw [nI_clamp (by omega)]
    generalize hm1 : zd_set h1 (zd_b0 B + 1) (.inr (.inr (.inr (10, fun j => if j = i then some (zd_b0 B + (2 + 3 * i)) else dRow B i j)))) = m1
    have km1 : Ke B h1 m1 (fun q => q = zd_b0 B + 1) := by
      rw [← hm1]
      exact (Gw.set (S := fun q => q = zd_b0 B + 1) rfl).ke
    have em : m1.1 = h1.1 := by rw [← hm1]; rfl
    have sm : m1.2.1 = h1.2.1 := by rw [← hm1]; rfl
    conv => whnf
    refine ⟨?_, trivial⟩
    rw [nI_1]
    refine ih (i + 1) m1 (by omega) (by omega) (by omega) (km1.ob (k1.ob o (fun z => z)) (fun e => by omega)) ?_ (fun j hj => ?_)
    · rw [← hm1]
      refine ⟨ar1.1, zd_set_s.trans ?_⟩
      congr 4
      funext j
      unfold dRow
      by_cases e : j = i
      · subst e
        rw [if_pos rfl, if_pos (by omega)]
      · rw [if_neg e]
        by_cases q : j < i
        · rw [if_pos q, if_pos (by omega)]
        · rw [if_neg q, if_neg (by omega)]
    · by_cases e : j = i
      · subst e
        exact km1.dc w1 (fun e => by omega) (fun e => by omega) (fun e => by omega)
      · exact km1.dc (k1.dc (dc j (by omega)) (fun z => z) (fun z => z) (fun z => z)) (fun e => by omega) (fun e => by omega) (fun e => by omega)
theorem desk_init (hG : zd_G B) (hl : l.stackTraces = false) (c1 : h.1 = 1) (r2 : h.2.1 + 4995 ≤ zd_SB) (o : zd_Ob B h (zd_b0 B + 0) 0 [.null, .null, .null, .null, .null, .null, .null, .null])
    (hq : ∀ h', Cw B h' R0 (fun _ => 0) 0 [] 35 1100 → h'.1 = 53 → h'.2.1 = h.2.1 + 4995 → Q (.inl none) h') : zd_M l B m_De_init [.ref (zd_b0 B + 0)] h Q := by
  have cb : (53 : Nat) ≤ zd_CB := by decide
  refine zd_go (ok_De_init hG hl) [15] 60 ?_
  conv => whnf
  refine ⟨Nat.zero_le _, ?_⟩
  conv => whnf
  refine ⟨⟨by decide, by decide, by omega, by show h.2.1 + 10 ≤ _; omega⟩, ?_⟩
  generalize hm1 : zd_push h (zd_b0 B + h.1) (.inr (.inr (.inr (Int32.toNatClampNeg 10, fun _ => none)))) (Int32.toNatClampNeg 10) = m1
  have km1 : Ke B h m1 (fun _ => False) := by
    rw [← hm1]
    exact (Gw.push (S := fun _ => False)).ke
  have em : m1.1 = h.1 + 1 := by rw [← hm1]; rfl
  have sm : m1.2.1 = h.2.1 + 10 := by rw [← hm1]; rfl
  have ar1 : zd_Ar B m1 (zd_b0 B + 1) 10 (dRow B 0) := by
    rw [← hm1, show zd_b0 B + 1 = zd_b0 B + h.1 by omega]
    refine ⟨⟨by omega, by show zd_b0 B + h.1 < zd_b0 B + (h.1 + 1); omega⟩, (if_pos rfl).trans ?_⟩
    congr 4
  have o1 := km1.ob o (fun z => z)
  rw [show zd_b0 B + h.1 = zd_b0 B + 1 by omega]
  conv => whnf
  refine ⟨_, o1, Nat.le_of_ble_eq_true rfl, ⟨rfl, rfl⟩, ?_⟩
  generalize hm2 : zd_set m1 (zd_b0 B + 0) (.inl (0, ([.null, .null, .null, .null, .null, .null, .null, .null] : List Value).set 0 (.ref (zd_b0 B + 1)))) = m2
  have km2 : Ke B m1 m2 (fun q => q = zd_b0 B + 0) := by
    rw [← hm2]
    exact (Gw.set (S := fun q => q = zd_b0 B + 0) rfl).ke
  have em2 : m2.1 = m1.1 := by rw [← hm2]; rfl
  have sm2 : m2.2.1 = m1.2.1 := by rw [← hm2]; rfl
  conv => whnf
  refine ⟨?_, trivial⟩
  exact w_desk15 hG hl (s0 := h.2.1 + 10) (by omega) (fun h' w a b => hq h' w a (by omega)) 10 0 m2 (by omega) (by omega) (by omega) (by rw [← hm2]; exact ⟨o1.1, zd_set_s⟩) (km2.ar ar1 (fun e => by omega)) (fun j hj => by omega)
end YF

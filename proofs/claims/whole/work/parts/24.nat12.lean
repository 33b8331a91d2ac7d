/-! Natural by its value alone -/
def Ns (B : zd_B) (h : zd_H) (k R : Nat) : Prop := ∃ g n, Nt B h k R g n
def Nv (B : zd_B) (h : zd_H) (k R V : Nat) : Prop := ∃ g n, Nt B h k R g n ∧ (n = 0 ∨ g (n - 1) ≠ 0) ∧ zv 1000000000 g n = V
theorem Nv.s {B : zd_B} {h : zd_H} {k R V : Nat} (a : Nv B h k R V) : Ns B h k R := a.elim fun g b => b.elim fun n c => ⟨g, n, c.1⟩
/-- how many limbs -/
def nl (V : Nat) : Nat := if V = 0 then 0 else (dg V + 8) / 9
theorem nl_eq {g : Nat → Nat} {n : Nat} (hg : ∀ i, g i < 1000000000) (hz : n = 0 ∨ g (n - 1) ≠ 0) : n = nl (zv 1000000000 g n) := by
  unfold nl
  rcases Nat.eq_zero_or_pos n with e | e
  · subst e; rfl
  · rw [if_neg (zv_pos e hz)]
    have := dg_limbs hg e hz
    omega
theorem nl_0 : nl 0 = 0 := rfl
theorem nl_mono {a b : Nat} (h : a ≤ b) : nl a ≤ nl b := by
  unfold nl
  by_cases e : a = 0
  · rw [if_pos e]; exact Nat.zero_le _
  · rw [if_neg e, if_neg (by omega)]
    have := dg_mono h
    omega
theorem nl_eq0 {a : Nat} : nl a = 0 ↔ a = 0 := by
  unfold nl
  by_cases e : a = 0
  · rw [if_pos e]; exact ⟨fun _ => e, fun _ => rfl⟩
  · rw [if_neg e]
    have := dg_pos a
    exact ⟨fun q => by omega, fun q => absurd q e⟩
theorem Nv.nl {B : zd_B} {h : zd_H} {k R V : Nat} (a : Nv B h k R V) : nl V ≤ R := by
  obtain ⟨g, n, hN, hz, hv⟩ := a
  rw [← hv, ← nl_eq hN.2.2.2.2 hz]
  exact hN.2.2.1
theorem Nv.kept {B : zd_B} {h h' : zd_H} {S : Nat → Prop} {d k R V : Nat} (hN : Nv B h k R V) (f : Fg B h h' S d) (h0 : ¬ S (zd_b0 B + k)) (h1 : ¬ S (zd_b0 B + k + 1)) : Nv B h' k R V := by
  obtain ⟨g, n, a, b⟩ := hN
  exact ⟨g, n, a.kept f h0 h1, b⟩
theorem Ns.kept {B : zd_B} {h h' : zd_H} {S : Nat → Prop} {d k R : Nat} (hN : Ns B h k R) (f : Fg B h h' S d) (h0 : ¬ S (zd_b0 B + k)) (h1 : ¬ S (zd_b0 B + k + 1)) : Ns B h' k R := by
  obtain ⟨g, n, a⟩ := hN
  exact ⟨g, n, a.kept f h0 h1⟩
theorem NS_n {B : zd_B} {k j : Nat} (h : k + 1 < j ∨ j + 1 < k) : ¬ NS B k (zd_b0 B + j) ∧ ¬ NS B k (zd_b0 B + j + 1) := ⟨fun q => by rcases q with q | q <;> omega, fun q => by rcases q with q | q <;> omega⟩
theorem NS_o {B : zd_B} {k j : Nat} (h : j < k ∨ k + 1 < j) : ¬ NS B k (zd_b0 B + j) := fun q => by rcases q with q | q <;> omega
section NK
variable {l : Launch} {B : zd_B} {h : zd_H} {Q : zd_O → zd_H → Prop}
theorem Ns.ob {k R : Nat} (hN : Ns B h k R) : ∃ fs, zd_Ob B h (zd_b0 B + k) 4 fs := by
  obtain ⟨g, n, a⟩ := hN
  exact ⟨_, a.1⟩
theorem Nv.ob {k R V : Nat} (hN : Nv B h k R V) : ∃ fs, zd_Ob B h (zd_b0 B + k) 4 fs := hN.s.ob
theorem v_isZero (hG : zd_G B) (hl : l.stackTraces = false) {k R V : Nat} (hN : Nv B h k R V) (hq : Q (.inl (some (.int (if V = 0 then 1 else 0)))) h) : zd_M l B m_Na_isZero [.ref (zd_b0 B + k)] h Q := by
  obtain ⟨g, n, a, b, c⟩ := hN
  refine c_Na_isZero hG hl a ?_
  have e := nl_eq a.2.2.2.2 b
  rw [c] at e
  have : (if n = 0 then (1 : Int32) else 0) = (if V = 0 then 1 else 0) := by
    by_cases z : V = 0
    · rw [if_pos z, if_pos (by rw [e]; exact nl_eq0.mpr z)]
    · rw [if_neg z, if_neg (fun q => z (nl_eq0.mp (e ▸ q)))]
  rw [this]
  exact hq
theorem v_digits (hG : zd_G B) (hl : l.stackTraces = false) {k R V : Nat} (hN : Nv B h k R V) (hq : Q (.inl (some (.int (nI (dg V))))) h) : zd_M l B m_Na_digits [.ref (zd_b0 B + k)] h Q := by
  obtain ⟨g, n, a, b, c⟩ := hN
  refine c_Na_digits hG hl a b ?_
  rw [c]
  exact hq
theorem v_digitAt (hG : zd_G B) (hl : l.stackTraces = false) {k R V p : Nat} (hN : Nv B h k R V) (hp : p < 2 ^ 31) (hq : Q (.inl (some (.int (nI (V / 10 ^ p % 10))))) h) : zd_M l B m_Na_digitAt [.ref (zd_b0 B + k), .int (nI p)] h Q := by
  obtain ⟨g, n, a, b, c⟩ := hN
  refine c_Na_digitAt hG hl a hp ?_
  rw [c]
  exact hq
theorem v_order (hG : zd_G B) (hl : l.stackTraces = false) {k R V j R2 V2 : Nat} (hN : Nv B h k R V) (hJ : Nv B h j R2 V2) (hq : Q (.inl (some (.int (cmpN V V2)))) h) : zd_M l B m_Na_order [.ref (zd_b0 B + k), .ref (zd_b0 B + j)] h Q := by
  obtain ⟨g, n, a, b, c⟩ := hN
  obtain ⟨g2, n2, a2, b2, c2⟩ := hJ
  refine c_Na_order hG hl a a2 b b2 ?_
  rw [c, c2]
  exact hq
theorem v_trailingZeros (hG : zd_G B) (hl : l.stackTraces = false) {k R V : Nat} (hN : Nv B h k R V) (hV : V ≠ 0) (hq : ∀ t, V % 10 ^ t = 0 → V % 10 ^ (t + 1) ≠ 0 → Q (.inl (some (.int (nI t)))) h) : zd_M l B m_Na_trailingZeros [.ref (zd_b0 B + k)] h Q := by
  obtain ⟨g, n, a, b, c⟩ := hN
  rw [← c] at hq hV
  refine c_Na_trailingZeros hG hl a ?_ b hq
  rcases Nat.eq_zero_or_pos n with e | e
  · exact absurd (by rw [e]; rfl) hV
  · exact e
theorem v_copy (hG : zd_G B) (hl : l.stackTraces = false) {k R j R2 V2 : Nat} (hN : Ns B h k R) (hJ : Nv B h j R2 V2) (hkj : k ≠ j) (hr : Rm h)
    (hok : ∀ h', nl V2 ≤ R → Fg B h h' (NS B k) 0 → Nv B h' k R V2 → Q (.inl none) h') (hth : ∀ h', R < nl V2 → Fx B h h' E0 11 → Q (.inr (zd_b0 B + h.1, 11)) h') : zd_M l B m_Na_copy [.ref (zd_b0 B + k), .ref (zd_b0 B + j)] h Q := by
  obtain ⟨g, n, a⟩ := hN
  obtain ⟨g2, n2, a2, b2, c2⟩ := hJ
  have e := nl_eq a2.2.2.2.2 b2
  rw [c2] at e
  refine c_Na_copy hG hl a a2 hkj hr (fun h' g' d1 d2 d3 d4 => hok h' (by omega) d2 ⟨g', n2, d3, ?_, by rw [← c2]; exact zv_congr d4⟩) (fun h' d1 d2 => hth h' (by omega) d2)
  rcases b2 with b2 | b2
  · exact Or.inl b2
  · rcases Nat.eq_zero_or_pos n2 with q | q
    · exact Or.inl q
    · exact Or.inr (by rw [d4 _ (by omega)]; exact b2)
theorem v_become (hG : zd_G B) (hl : l.stackTraces = false) {k R : Nat} {v : Int} (hN : Ns B h k R) (hR : 3 ≤ R) (hz : lR v) (hr : Rm h)
    (hq : ∀ h', Fg B h h' (NS B k) 0 → Nv B h' k R v.natAbs → Q (.inl none) h') : zd_M l B m_Na_become [.ref (zd_b0 B + k), .long (lI v)] h Q := by
  obtain ⟨g, n, a⟩ := hN
  exact c_Na_become hG hl a hR hz hr (fun h' g' n' b1 b2 b3 b4 => hq h' b1 ⟨g', n', b2, b3, b4⟩)
theorem v_product (hG : zd_G B) (hl : l.stackTraces = false) {k R ja Ra Va jb Rb Vb : Nat} (hN : Ns B h k R) (hA : Nv B h ja Ra Va) (hJ : Nv B h jb Rb Vb) (hka : k ≠ ja) (hkb : k ≠ jb) (hr : Rm h) (hs : nl Va + nl Vb ≤ R)
    (hq : ∀ h', Fg B h h' (NS B k) 0 → Nv B h' k R (Va * Vb) → Q (.inl none) h') : zd_M l B m_Na_becomeProduct [.ref (zd_b0 B + k), .ref (zd_b0 B + ja), .ref (zd_b0 B + jb)] h Q := by
  obtain ⟨g, n, a⟩ := hN
  obtain ⟨ga, na, a1, b1, c1⟩ := hA
  obtain ⟨gb, nb, a2, b2, c2⟩ := hJ
  have e1 := nl_eq a1.2.2.2.2 b1
  have e2 := nl_eq a2.2.2.2.2 b2
  rw [c1] at e1
  rw [c2] at e2
  exact c_Na_becomeProduct hG hl a a1 a2 hka hkb hr (by omega) (fun h' g' n' d1 d2 d3 d4 _ => hq h' d1 ⟨g', n', d2, d3, by rw [d4, c1, c2]⟩)
theorem v_move (hG : zd_G B) (hl : l.stackTraces = false) {k R V : Nat} {p : Int} (hN : Nv B h k R V) (hp : -100000 < p ∧ p < 100000) (hr : Rm h)
    (hq : ∀ h' lost, (V = 0 ∨ p ≤ 0 ∨ (dg V + p.toNat + 8) / 9 ≤ R) → Fg B h h' (NS B k) 0 → Nv B h' k R (V * 10 ^ p.toNat / 10 ^ (-p).toNat) → lost ≤ 1 → (lost = 1 ↔ V % 10 ^ (-p).toNat ≠ 0) → Q (.inl (some (.int (nI lost)))) h')
    (hth : ∀ h', V ≠ 0 → 0 < p → R < (dg V + p.toNat + 8) / 9 → Fx B h h' E0 11 → Q (.inr (zd_b0 B + h.1, 11)) h') :
    zd_M l B m_Na_move [.ref (zd_b0 B + k), .int (iI p)] h Q := by
  obtain ⟨g, n, a, b, c⟩ := hN
  refine c_Na_move hG hl a b hp hr (fun h' g' n' lost d1 d2 d3 d4 d5 d6 d7 => hq h' lost ?_ d2 ⟨g', n', d3, d4, by rw [d5, c]⟩ d6 (by rw [← c]; exact d7)) (fun h' d1 d2 d3 d4 => hth h' (by rw [← c]; exact zv_pos d1 b) d2 (by rw [← c]; exact d3) d4)
  rcases d1 with q | q
  · exact Or.inl (by rw [← c, q]; rfl)
  · rw [c] at q
    exact Or.inr q
theorem v_raiseBy (hG : zd_G B) (hl : l.stackTraces = false) {k R V j R2 V2 : Nat} (hN : Nv B h k R V) (hJ : Nv B h j R2 V2) (hkj : k ≠ j) (hr : Rm h)
    (hq : ∀ h', Fg B h h' (NS B k) 0 → Nv B h' k R (V + V2) → Q (.inl none) h')
    (hth : ∀ h', (R < nl V + 1 ∨ R < nl V2 + 1) → Fx B h h' E0 11 → Q (.inr (zd_b0 B + h.1, 11)) h') : zd_M l B m_Na_raiseBy [.ref (zd_b0 B + k), .ref (zd_b0 B + j)] h Q := by
  obtain ⟨g, n, a, b, c⟩ := hN
  obtain ⟨g2, n2, a2, b2, c2⟩ := hJ
  have e1 := nl_eq a.2.2.2.2 b
  have e2 := nl_eq a2.2.2.2.2 b2
  rw [c] at e1
  rw [c2] at e2
  refine c_Na_raiseBy hG hl a a2 hkj hr (fun h' g' n' d1 d2 d3 d4 d5 _ => hq h' d2 ⟨g', n', d3, d4, by rw [d5, c, c2]⟩) (fun h' d1 d2 => hth h' ?_ d2)
  split at d1 <;> omega
theorem v_lowerBy (hG : zd_G B) (hl : l.stackTraces = false) {k R V j R2 V2 : Nat} (hN : Nv B h k R V) (hJ : Nv B h j R2 V2) (hkj : k ≠ j) (hle : V2 ≤ V)
    (hq : ∀ h', Fg B h h' (NS B k) 0 → Nv B h' k R (V - V2) → Q (.inl none) h') : zd_M l B m_Na_lowerBy [.ref (zd_b0 B + k), .ref (zd_b0 B + j)] h Q := by
  obtain ⟨g, n, a, b, c⟩ := hN
  obtain ⟨g2, n2, a2, b2, c2⟩ := hJ
  have e1 := nl_eq a.2.2.2.2 b
  have e2 := nl_eq a2.2.2.2.2 b2
  rw [c] at e1
  rw [c2] at e2
  have := nl_mono hle
  exact c_Na_lowerBy hG hl a a2 hkj (by omega) (by rw [c, c2]; exact hle) (fun h' g' n' d1 d2 d3 d4 _ => hq h' d1 ⟨g', n', d2, d3, by rw [d4, c, c2]⟩)
theorem v_increment (hG : zd_G B) (hl : l.stackTraces = false) {k R V : Nat} (hN : Nv B h k R V) (hr : Rm h) (hnR : nl V < R)
    (hq : ∀ h', Fg B h h' (NS B k) 0 → Nv B h' k R (V + 1) → Q (.inl none) h') : zd_M l B m_Na_increment [.ref (zd_b0 B + k)] h Q := by
  obtain ⟨g, n, a, b, c⟩ := hN
  have e1 := nl_eq a.2.2.2.2 b
  rw [c] at e1
  exact c_Na_increment hG hl a hr (by omega) b (fun h' g' n' d1 d2 d3 d4 _ => hq h' d1 ⟨g', n', d2, d3, by rw [d4, c]⟩)
theorem v_overSmall (hG : zd_G B) (hl : l.stackTraces = false) {k R V m : Nat} (hN : Nv B h k R V) (hm : m < 1000000000) (hm1 : 1 ≤ m)
    (hq : ∀ h', Fg B h h' (NS B k) 0 → Nv B h' k R (V / m) → Q (.inl none) h') : zd_M l B m_Na_overSmall [.ref (zd_b0 B + k), .int (nI m)] h Q := by
  obtain ⟨g, n, a, b, c⟩ := hN
  exact c_Na_overSmall hG hl a hm hm1 b (fun h' g' n' d1 d2 d3 d4 _ => hq h' d1 ⟨g', n', d2, d3, by rw [d4, c]⟩)
end NK

/-! the text: its object and its row -/
def Tx (B : zd_B) (h : zd_H) (k cap : Nat) (L : List Nat) : Prop := ∃ f : Nat → Nat, zd_Ob B h (zd_b0 B + 34) 7 [.ref (zd_b0 B + k), .int (nI L.length)] ∧ zd_Ai B h (zd_b0 B + k) 1 cap (fun i => nI (f i)) ∧ PT f L.length L ∧ L.length ≤ cap
def TS (B : zd_B) (k : Nat) : Nat → Prop := fun q => q = zd_b0 B + 34 ∨ q = zd_b0 B + k
theorem Tx.kept {B : zd_B} {h h' : zd_H} {S : Nat → Prop} {d k cap : Nat} {L : List Nat} (t : Tx B h k cap L) (f : Fg B h h' S d) (h0 : ¬ S (zd_b0 B + 34)) (h1 : ¬ S (zd_b0 B + k)) : Tx B h' k cap L := by
  obtain ⟨g, a, b, c, e⟩ := t
  exact ⟨g, f.ob a h0, f.ai b h1, c, e⟩
section XD
variable {l : Launch} {B : zd_B} {h : zd_H} {Q : zd_O → zd_H → Prop}
theorem te_append (hG : zd_G B) (hl : l.stackTraces = false) {k cap c : Nat} {L : List Nat} (hk : 34 < k) (hT : Tx B h k cap L) (hcap : cap ≤ 11020) (hL : L.length < cap) (hc : c < 65536) (hq : ∀ h', Fg B h h' (TS B k) 0 → Tx B h' k cap (L ++ [c]) → Q (.inl none) h') : zd_M l B m_Te_append [.ref (zd_b0 B + 34), .int (nI c)] h Q := by
  obtain ⟨f, t1, t2, t3, t4⟩ := hT
  refine zd_go (ok_Te_append hG hl) [] 60 ?_
  conv => whnf
  refine ⟨_, t1, ?_⟩
  conv => whnf
  refine ⟨_, t1, ?_⟩
  conv => whnf
  refine ⟨cap, Or.inl ⟨1, _, t2, by decide⟩, ?_⟩
  conv => whnf
  refine ⟨fun z => absurd ((nI_leI (by omega) (by omega)).mp z) (by omega), fun _ => ?_⟩
  conv => whnf
  refine ⟨_, t1, ?_⟩
  conv => whnf
  refine ⟨_, t1, ?_⟩
  conv => whnf
  refine ⟨cap, _, t2, vp_in_nI (by omega) (by omega), narrow_c hc, ?_⟩
  rw [nI_clamp (by omega), upd_nI]
  have f1 : Fg B h (zd_set h (zd_b0 B + k) (.inr (.inl (1, cap, fun i => nI (zu f L.length c i))))) (TS B k) 0 := Fg.set (Or.inr rfl)
  have o1 : zd_Ob B (zd_set h (zd_b0 B + k) (.inr (.inl (1, cap, fun i => nI (zu f L.length c i))))) (zd_b0 B + 34) 7 [.ref (zd_b0 B + k), .int (nI L.length)] := ⟨t1.1, (zd_set_n (by omega)).trans t1.2⟩
  conv => whnf
  refine ⟨_, o1, ?_⟩
  conv => whnf
  refine ⟨_, o1, Nat.le_of_ble_eq_true rfl, ⟨rfl, rfl⟩, ?_⟩
  conv => whnf
  refine ⟨hq _ (f1.set2 (Or.inl rfl)) ⟨zu f L.length c, ?_, ?_, ?_, ?_⟩, trivial⟩
  · rw [List.length_append]
    refine ⟨t1.1, zd_set_s.trans ?_⟩
    rw [nI_1]
    rfl
  · exact ⟨t2.1, (zd_set_n (by omega)).trans zd_set_s⟩
  · have := t3.add (c := c)
    rwa [List.length_append]
  · rw [List.length_append]
    exact hL
theorem te_at (hG : zd_G B) (hl : l.stackTraces = false) {k cap : Nat} {L : List Nat} {i : Int} (hi : iR i) (hT : Tx B h k cap L) (hcap : cap ≤ 11020) (hq : Q (.inl (some (.int (if i < 0 ∨ (L.length : Int) ≤ i then -1 else nI (L[i.toNat]?.getD 0))))) h) : zd_M l B m_Te_at [.ref (zd_b0 B + 34), .int (iI i)] h Q := by
  obtain ⟨f, t1, t2, t3, t4⟩ := hT
  have r0 : iR 0 := ⟨by decide, by decide⟩
  refine zd_go (ok_Te_at hG hl) [] 60 ?_
  conv => whnf
  by_cases h1 : i < 0
  · rw [if_pos (Or.inl h1)] at hq
    refine ⟨fun _ => ?_, fun z => absurd ((iI_lt hi r0).mpr h1) z⟩
    conv => whnf
    refine ⟨rfl, ?_, trivial⟩
    exact hq
  · refine ⟨fun z => absurd ((iI_lt hi r0).mp z) h1, fun _ => ?_⟩
    conv => whnf
    refine ⟨_, t1, ?_⟩
    conv => whnf
    by_cases h2 : i < L.length
    · obtain ⟨n, e⟩ : ∃ n : Nat, i = n := ⟨i.toNat, by omega⟩
      subst e
      rw [if_neg (by omega)] at hq
      rw [← iI_nI]
      refine ⟨fun _ => ?_, fun z => absurd ((nI_ltI (by omega) (by omega)).mpr (by omega)) z⟩
      conv => whnf
      refine ⟨_, t1, ?_⟩
      conv => whnf
      refine ⟨cap, _, t2, vp_in_nI (by omega) (by omega), ?_⟩
      rw [nI_clamp (by omega)]
      conv => whnf
      refine ⟨rfl, ?_, trivial⟩
      rw [show ((n : Int)).toNat = n from rfl, t3.2 n (by omega)] at hq
      exact hq
    · rw [if_pos (by omega)] at hq
      refine ⟨fun z => absurd ((iI_lt hi ⟨by omega, by omega⟩).mp (by rw [← iI_nI]; exact z)) h2, fun _ => ?_⟩
      conv => whnf
      refine ⟨rfl, ?_, trivial⟩
      exact hq
theorem te_restart (hG : zd_G B) (hl : l.stackTraces = false) {k cap n : Nat} {L : List Nat} (hk : 34 < k) (hkh : k < h.1) (hT : Tx B h k cap L) (hcap : cap = 1100 ∨ cap = 11020) (hn : n ≤ 11000) (hr : h.1 + 1 ≤ zd_CB ∧ (cap = 1100 → h.2.1 + 11020 ≤ zd_SB))
    (hq : ∀ h' k' cap', n + 20 ≤ cap' → (cap' = 1100 ∨ cap' = 11020) → 34 < k' → Tx B h' k' cap' [] → ((k' = k ∧ cap' = cap ∧ h'.1 = h.1 ∧ h'.2.1 = h.2.1) ∨ (k' = h.1 ∧ cap = 1100 ∧ cap' = 11020 ∧ h'.1 = h.1 + 1 ∧ h'.2.1 = h.2.1 + 11020)) → (∀ a, a < zd_b0 B + h.1 → a ≠ zd_b0 B + 34 → h'.2.2 a = h.2.2 a) → Q (.inl none) h') : zd_M l B m_Te_restart [.ref (zd_b0 B + 34), .int (nI n)] h Q := by
  obtain ⟨f, t1, t2, t3, t4⟩ := hT
  have o1 : zd_Ob B (zd_set h (zd_b0 B + 34) (.inl (7, [.ref (zd_b0 B + k), .int (nI 0)]))) (zd_b0 B + 34) 7 [.ref (zd_b0 B + k), .int (nI 0)] := ⟨t1.1, zd_set_s⟩
  have o2 : zd_Ai B (zd_set h (zd_b0 B + 34) (.inl (7, [.ref (zd_b0 B + k), .int (nI 0)]))) (zd_b0 B + k) 1 cap (fun i => nI (f i)) := ⟨t2.1, (zd_set_n (by omega)).trans t2.2⟩
  have p0 : ∀ g, PT g ([] : List Nat).length [] := fun g => ⟨rfl, fun i hi => absurd hi (by show ¬ i < 0; omega)⟩
  refine zd_go (ok_Te_restart hG hl) [] 60 ?_
  conv => whnf
  refine ⟨_, t1, Nat.le_of_ble_eq_true rfl, ⟨rfl, rfl⟩, ?_⟩
  conv => whnf
  refine ⟨_, o1, ?_⟩
  conv => whnf
  refine ⟨cap, Or.inl ⟨1, _, o2, by decide⟩, ?_⟩
  conv => whnf
  rw [show nI n + 20 = nI (n + 20) from nI_add n 20]
  by_cases h1 : n + 20 ≤ cap
  · refine ⟨fun _ => ?_, fun z => absurd ((nI_leI (by omega) (by omega)).mpr h1) z⟩
    conv => whnf
    refine ⟨hq _ k cap h1 hcap hk ⟨f, o1, o2, p0 f, Nat.zero_le _⟩ (Or.inl ⟨rfl, rfl, rfl, rfl⟩) (fun a _ e => zd_set_n e), trivial⟩
  · have hc : cap = 1100 := by omega
    refine ⟨fun z => absurd ((nI_leI (by omega) (by omega)).mp z) h1, fun _ => ?_⟩
    conv => whnf
    refine ⟨⟨by decide, by decide, hr.1, hr.2 hc⟩, ?_⟩
    conv => whnf
    have hlt := t1.1.2
    have o3 : zd_Ob B (zd_push (zd_set h (zd_b0 B + 34) (.inl (7, [.ref (zd_b0 B + k), .int (nI 0)]))) (zd_b0 B + h.1) (.inr (.inl (1, 11020, fun _ => 0))) 11020) (zd_b0 B + 34) 7 [.ref (zd_b0 B + k), .int (nI 0)] := ⟨⟨t1.1.1, by show _ < _ + (h.1 + 1); omega⟩, (if_neg (by omega)).trans zd_set_s⟩
    refine ⟨_, o3, Nat.le_of_ble_eq_true rfl, ⟨rfl, rfl⟩, ?_⟩
    conv => whnf
    refine ⟨hq _ h.1 11020 (by omega) (Or.inr rfl) (by omega) ⟨fun _ => 0, ⟨⟨t1.1.1, by show _ < _ + (h.1 + 1); omega⟩, zd_set_s⟩, ⟨⟨by omega, by show _ < _ + (h.1 + 1); omega⟩, (zd_set_n (by omega)).trans (if_pos rfl)⟩, p0 _, Nat.zero_le _⟩ (Or.inr ⟨rfl, hc, rfl, rfl, rfl⟩) (fun a ha e => (zd_set_n e).trans ((if_neg (fun (e2 : a = zd_b0 B + h.1) => by omega)).trans (zd_set_n e))), trivial⟩
end XD

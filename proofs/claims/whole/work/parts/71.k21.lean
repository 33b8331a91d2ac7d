/-! the model: figure, add -/
def sp_addV (x y : zr) (less : Bool) : Bool × Nat :=
  if x.1 = (y.1 != less) then (x.1, upS x (max x.2.2 y.2.2) + upS y (max x.2.2 y.2.2))
  else if upS y (max x.2.2 y.2.2) ≤ upS x (max x.2.2 y.2.2) then (x.1, upS x (max x.2.2 y.2.2) - upS y (max x.2.2 y.2.2))
  else (y.1 != less, upS y (max x.2.2 y.2.2) - upS x (max x.2.2 y.2.2))
theorem fig_pure {V e k : Nat} : V * 10 ^ e / 10 ^ k % 10 = if k < e ∨ dg V + e ≤ k then 0 else td V (dg V) (dg V - 1 - (k - e)) := by
  by_cases h1 : k < e
  · rw [if_pos (Or.inl h1), show e = ((e - k - 1) + 1) + k by omega, Nat.pow_add, ← Nat.mul_assoc, Nat.mul_div_cancel _ (pow10_pos _), Nat.pow_succ, ← Nat.mul_assoc, Nat.mul_mod_left]
  · have e1 : V * 10 ^ e / 10 ^ k = V / 10 ^ (k - e) := mulpow_div V (by omega)
    rw [e1]
    by_cases h2 : dg V + e ≤ k
    · rw [if_pos (Or.inr h2), div_pow_z (by omega)]
    · rw [if_neg (by omega)]
      unfold td
      congr 3
      omega
section KV
variable {l : Launch} {B : zd_B} {Q : Option Value → zst → Prop} {t ln sz : Nat} {sc : Int} {mo be : Bool} {ts us lz pr fa : Nat} {D K Mn : Nat → Nat} {Mi : Nat → Bool} {Sc : Nat → Int} {rw tp un lf pa : Nat → Nat}
theorem k_figure (hG : zd_G B) (hl : l.stackTraces = false) {R : Nat → zr} (hR : ROk R) (hM : MR R K Mn Mi Sc) {r k : Nat} {s : Int} (hr : r < 10) (hk : k < 100000) (hs : (R r).2.2 ≤ s) (hs2 : s ≤ 10000) (hq : Q (some (.int (nI (upS (R r) s / 10 ^ k % 10)))) (mS t ln sz sc mo be ts us lz pr fa D K Mn Mi Sc rw tp un lf pa)) : zm_M l B gM m_Mo_figure [.ref 53, .int (nI r), .long (lI s), .int (nI k)] (mS t ln sz sc mo be ts us lz pr fa D K Mn Mi Sc rw tp un lf pa) Q := by
  obtain ⟨mr, kr, nr, sr⟩ := hM.2 r hr
  obtain ⟨ra, ra2, ra3, -⟩ := hR r hr
  have hp := dg_pos (R r).2.1
  unfold upS at hq
  rw [fig_pure] at hq
  refine zm_go (okm_Mo_figure hG hl) [] 200 ?_
  conv => whnf
  refine ⟨r, rfl, by omega, ?_⟩
  conv => whnf
  refine ⟨r, rfl, by omega, ?_⟩
  conv => whnf
  dsimp only
  rw [mr, sr, iI_nI (dg (R r).2.1), iI_l ⟨by omega, by omega⟩, iI_nI k, iI_l ⟨by omega, by omega⟩, iI_l ⟨by omega, by omega⟩, show (1 : Int64) = lI 1 from rfl, lI_sub, lI_sub, lI_sub, lI_add]
  by_cases h1 : (dg (R r).2.1 : Int) - 1 - k + (s - (R r).2.2) < 0
  · rw [if_pos (by omega)] at hq
    refine ⟨fun _ => ?_, fun z => absurd ((cmp_lt _ _).mpr ((lI_lt (b := 0) ⟨by omega, by omega⟩ ⟨by decide, by decide⟩).mpr h1)) z⟩
    conv => whnf
    exact ⟨hq, trivial⟩
  · refine ⟨fun z => absurd ((lI_lt (b := 0) ⟨by omega, by omega⟩ ⟨by decide, by decide⟩).mp ((cmp_lt _ _).mp z)) h1, fun _ => ?_⟩
    conv => whnf
    refine ⟨r, rfl, by omega, ?_⟩
    conv => whnf
    dsimp only
    rw [mr, iI_nI (dg (R r).2.1), iI_l ⟨by omega, by omega⟩]
    by_cases h2 : (dg (R r).2.1 : Int) - 1 - k + (s - (R r).2.2) < dg (R r).2.1
    · rw [if_neg (by omega)] at hq
      refine ⟨fun _ => ?_, fun z => absurd ((cmp_lt _ _).mpr ((lI_lt ⟨by omega, by omega⟩ ⟨by omega, by omega⟩).mpr h2)) z⟩
      conv => whnf
      refine ⟨(1000 * r + (dg (R r).2.1 - 1 - (k - (s - (R r).2.2).toNat))), by rw [lI_i, ← nI_add, ← lmul, show (1000 : Int32) = nI 1000 from rfl]; congr 1; rw [iI_nI]; congr 1; omega, by omega, ?_⟩
      conv => whnf
      dsimp only
      rw [kr _ (by omega)]
      exact ⟨hq, trivial⟩
    · rw [if_pos (by omega)] at hq
      refine ⟨fun z => absurd ((lI_lt ⟨by omega, by omega⟩ ⟨by omega, by omega⟩).mp ((cmp_lt _ _).mp z)) h2, fun _ => ?_⟩
      conv => whnf
      exact ⟨hq, trivial⟩
end KV

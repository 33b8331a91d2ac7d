/-! Natural: contracts -/
/-- a Natural at the cell k: room for R limbs, the limbs g, n of them -/
def Nt (B : zd_B) (h : zd_H) (k R : Nat) (g : Nat → Nat) (n : Nat) : Prop := zd_Ob B h (zd_b0 B + k) 4 [.ref (zd_b0 B + k + 1), .int (nI n)] ∧ zd_Ai B h (zd_b0 B + k + 1) 0 R (fun i => nI (g i)) ∧ n ≤ R ∧ R < 1000 ∧ ∀ i, g i < 1000000000
section NA
variable {l : Launch} {B : zd_B} {h : zd_H} {Q : zd_O → zd_H → Prop}
theorem c_Na_isZero (hG : zd_G B) (hl : l.stackTraces = false) {k R n : Nat} {g : Nat → Nat} (hN : Nt B h k R g n) (hq : Q (.inl (some (.int (if n = 0 then 1 else 0)))) h) : zd_M l B m_Na_isZero [.ref (zd_b0 B + k)] h Q := by
  refine zd_go (ok_Na_isZero hG hl) [] 30 ?_
  conv => whnf
  trace_state
  sorry
end NA

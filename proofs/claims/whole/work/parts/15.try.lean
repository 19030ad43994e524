theorem q_at {μ : Mem} {r s t : Int} {Q : PV → Mem → Prop} (h : Q (0, 400 * r + 8 + 98 * s + t) μ) : MetP mX5_at [(0, r), (0, s), (0, t)] μ Q := by
  refine MetP.go snX5_at [] 100 rfl rfl rfl rfl (fun _ => ?_)
  exact h
theorem q_up {μ : Mem} {a b : Int} {Q : PV → Mem → Prop} (hb : 0 < b ∧ b ≤ 100000) (ha : 0 ≤ a ∧ a ≤ 10000000) (h : Q (0, (a + b - 1) / b) μ) : MetP mX5_up [(0, a), (0, b)] μ Q := by
  refine MetP.go snX5_up [] 100 rfl rfl rfl rfl (fun _ => ?_)
  refine ⟨by omega, ?_⟩
  exact h
theorem q_lowOf {μ : Mem} {a : Int} {Q : PV → Mem → Prop} (ha : 0 ≤ a ∧ a ≤ 8) (h1 : a = 1 ∨ a = 3 ∨ a = 4 ∨ a = 8 → Q (0, 1) μ) (h0 : ¬ (a = 1 ∨ a = 3 ∨ a = 4 ∨ a = 8) → Q (0, 0) μ) : MetP mX5_lowOf [(0, a)] μ Q := by
  refine MetP.go snX5_lowOf [] 100 rfl rfl rfl rfl (fun _ => ?_)
  refine ⟨by omega, by omega, fun q => ?_, fun q => ?_⟩
  · exact h1 (by omega)
  refine ⟨by omega, by omega, fun q1 => ?_, fun q1 => ?_⟩
  · exact h1 (by omega)
  refine ⟨by omega, by omega, fun q2 => ?_, fun q2 => ?_⟩
  · exact h1 (by omega)
  refine ⟨by omega, by omega, fun q3 => ?_, fun q3 => ?_⟩
  · exact h0 (by omega)
  · exact h1 (by omega)

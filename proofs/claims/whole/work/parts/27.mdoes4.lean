section M14
variable {μ : Mem} {r s m : Int} {g u : Int → Int} {v W : Mem} {Q : PV → Mem → Prop}
theorem smW_ne {c : Int} {i : Int} (hc : c ≠ 6) : smW v W i c = W c := by
  funext s
  unfold smW
  rw [if_neg (by omega)]
theorem qX5_does_5 {x2 : Int} {g5 : Int → Int} {n : Int} (hr : 0 ≤ r ∧ r ≤ 12) (hg7 : g5 7 = n) (hn : 1 ≤ n ∧ n ≤ 4)
    (hv : ∀ s, 0 ≤ s → s < n → (0 ≤ v s 9 ∧ v s 9 ≤ 3) ∧ (0 ≤ v s 24 ∧ v s 24 ≤ 6) ∧ (-1 ≤ v s 31 ∧ v s 31 ≤ 1) ∧ (0 ≤ v s 10 ∧ v s 10 ≤ 1000) ∧ (0 ≤ W 2 s ∧ W 2 s ≤ 300000) ∧ (0 ≤ W 8 s ∧ W 8 s ≤ 1000) ∧ (0 ≤ W 9 s ∧ W 9 s ≤ 1000))
    (h : ∀ x3, OkE mX5_does 137 [(105, 0), (0, r), (0, x2), (0, x3)] [] (wk μ r g5 (smTo v W n) (smW v W n)) Q) : ∀ (d : Nat) (s : Int), 0 ≤ s → s + d = n → OkE mX5_does 102 [(105, 0), (0, r), (0, x2), (0, s)] [] (wk μ r g5 (smTo v W s) (smW v W s)) Q
  | 0, s, h0, hd => by
    refine OkE.go snX5_does [102, 137] 100 ?_
    refine qX5_of 7 hr (by omega) ?_
    refine ⟨by omega, by omega, fun _ => ?_, fun q => absurd q (by omega)⟩
    rw [show s = n by omega]
    exact h _
  | d + 1, s, h0, hd => by
    have ih := qX5_does_5 (x2 := x2) hr hg7 hn hv h d (s + 1) (by omega) (by omega)
    obtain ⟨a9, a24, a31, a10, b2, b8, b9⟩ := hv s h0 (by omega)
    refine OkE.go snX5_does [102, 137] 100 ?_
    refine qX5_of 7 hr (by omega) ?_
    refine ⟨by omega, by omega, fun q => absurd q (by omega), fun _ => ?_⟩
    refine qX5_countOf hr (by omega) ?_
    rw [smTo_at]
    refine ⟨by omega, fun ν d1 => ?_⟩
    obtain rfl := d1.trans ((wr_W (by omega)).trans (congrArg _ (smW_succ h0)))
    have e : smTo v W s = setS (smTo v W s) s (v s) := by
      have := (setS_self (smTo v W s) s).symm
      rw [smTo_at] at this
      exact this
    have hq := qX5_sums_u (μ := μ) (g := g5) (u := v s) (v := smTo v W s) (W := smW v W (s + 1)) (x := W 2 s) (got := W 8 s) (gave := W 9 s) (Q := fun _ μ' => OkE mX5_does 102 [(105, 0), (0, r), (0, x2), (0, s + 1)] [] μ' Q) hr (by omega) a9 a24 a31 a10 b2 b8 b9 (congrFun (smW_ne (by omega)) s) (congrFun (smW_ne (by omega)) s) (congrFun (smW_ne (by omega)) s) (by rw [smTo_succ h0]; exact ih)
    rw [← e] at hq
    exact hq
end M14

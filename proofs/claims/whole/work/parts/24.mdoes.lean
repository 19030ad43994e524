section M11
variable {μ : Mem} {r s m : Int} {g u : Int → Int} {v W : Mem} {Q : PV → Mem → Prop}
theorem qX5_sums_u {x got gave : Int} (hr : 0 ≤ r ∧ r ≤ 12) (hs : 0 ≤ s ∧ s < 4) (h9 : 0 ≤ u 9 ∧ u 9 ≤ 3) (h24 : 0 ≤ u 24 ∧ u 24 ≤ 6) (h31 : -1 ≤ u 31 ∧ u 31 ≤ 1) (h10 : 0 ≤ u 10 ∧ u 10 ≤ 1000) (hx : 0 ≤ x ∧ x ≤ 300000) (hgot : 0 ≤ got ∧ got ≤ 1000) (hgave : 0 ≤ gave ∧ gave ≤ 1000) (hW2 : W 2 s = x) (hW8 : W 8 s = got) (hW9 : W 9 s = gave) (h : Q (9, 0) (wk μ r g (setS v s (sumsV u x got gave)) W)) : MetP mX5_sums [(105, 0), (0, r), (0, s)] (wk μ r g (setS v s u) W) Q := by
  have e9 : mv3 (mv3 (st1 u x got gave) 25 got) 28 gave 9 = u 9 := by
    unfold mv3 st1
    rw [upg_ne (by omega), upg_ne (by omega), upg_ne (by omega), upg_ne (by omega), upg_ne (by omega), upg_ne (by omega), upg_ne (by omega), upg_ne (by omega), upg_ne (by omega), upg_ne (by omega)]
  have e24 : mv3 (mv3 (st1 u x got gave) 25 got) 28 gave 24 = u 24 := by
    unfold mv3 st1
    rw [upg_ne (by omega), upg_ne (by omega), upg_ne (by omega), upg_ne (by omega), upg_ne (by omega), upg_ne (by omega), upg_ne (by omega), upg_ne (by omega), upg_ne (by omega), upg_ne (by omega)]
  have hend := qX5_sums_W (μ := μ) (g := g) (v := v) (W := W) (u := mv3 (mv3 (st1 u x got gave) 25 got) 28 gave) (l3 := x - u 10) (l4 := u 31) (Q := Q) hr hs (by rw [e9]; exact h9) (by rw [e24]; exact h24) hW2 (by rw [e9]; exact h) 5 5 rfl (by omega)
  rw [shWk_5] at hend
  have J166 : ∀ z, z = (if 0 < got then 1 else if 0 < gave then -1 else u 31) → OkE mX5_sums 166 [(105, 0), (0, r), (0, s), (0, x - u 10), (0, u 31), (9, 0), (9, 0)] [(0, z), (0, 400 * r + 8 + 98 * s + 31), (6300, 0 + 1)] (wk μ r g (setS v s (upg (upg (upg u 32 (u 32 + cntV u)) 33 (u 33 + max (x - u 10) 0)) 34 (u 34 + (if (0 < got ∧ u 31 < 0) ∨ (0 < gave ∧ 0 < u 31) then 1 else 0)))) W) Q := by
    intro z hz
    subst hz
    refine OkE.go snX5_sums [198] 100 ?_
    refine ⟨by omega, fun ν d1 => ?_⟩
    obtain rfl := d1.trans (wr_u 31 rfl (by omega) (by omega))
    refine ⟨by omega, fun x1 f1 => ?_⟩
    obtain rfl := f1.trans ((rd_W (by omega)).trans hW8)
    refine qX5_moves hr hs (by omega) ?_
    refine ⟨by omega, fun x2 f2 => ?_⟩
    obtain rfl := f2.trans ((rd_W (by omega)).trans hW9)
    refine qX5_moves hr hs (by omega) ?_
    exact hend
  have J125 : ∀ z, z = (if (0 < got ∧ u 31 < 0) ∨ (0 < gave ∧ 0 < u 31) then 1 else 0) → OkE mX5_sums 125 [(105, 0), (0, r), (0, s), (0, x - u 10), (0, u 31), (9, 0), (9, 0)] [(0, z), (0, u 34), (0, 400 * r + 8 + 98 * s + 34), (6300, 0 + 1)] (wk μ r g (setS v s (upg (upg u 32 (u 32 + cntV u)) 33 (u 33 + max (x - u 10) 0))) W) Q := by
    intro z hz
    subst hz
    refine OkE.go snX5_sums [166] 100 ?_
    refine ⟨by omega, fun ν d1 => ?_⟩
    obtain rfl := d1.trans (wr_u 34 rfl (by omega) (by omega))
    refine qX5_at ?_
    refine ⟨by omega, fun x1 f1 => ?_⟩
    obtain rfl := f1.trans ((rd_W (by omega)).trans hW8)
    refine ⟨by omega, fun q => ?_, fun q => ?_⟩
    · refine ⟨by omega, fun x2 f2 => ?_⟩
      obtain rfl := f2.trans ((rd_W (by omega)).trans hW9)
      refine ⟨by omega, fun q2 => ?_, fun q2 => ?_⟩
      · exact J166 _ (by rw [if_neg (by omega), if_neg (by omega)])
      · exact J166 _ (by rw [if_neg (by omega), if_pos (by omega)])
    · exact J166 _ (by rw [if_pos (by omega)])
  have J63 : ∀ z, z = max (x - u 10) 0 → OkE mX5_sums 63 [(105, 0), (0, r), (0, s), (0, x - u 10), (9, 0), (9, 0), (9, 0)] [(0, z), (0, u 33), (0, 400 * r + 8 + 98 * s + 33), (6300, 0 + 1)] (wk μ r g (setS v s (upg u 32 (u 32 + cntV u))) W) Q := by
    intro z hz
    subst hz
    refine OkE.go snX5_sums [125, 106] 100 ?_
    refine ⟨by omega, fun ν d1 => ?_⟩
    obtain rfl := d1.trans (wr_u 33 rfl (by omega) (by omega))
    refine qX5_at ?_
    refine ⟨by omega, fun x1 f1 => ?_⟩
    obtain rfl : x1 = u 31 := f1.trans ((rd_u 31 rfl (by omega) (by omega)).trans ((upg_ne (by omega)).trans (upg_ne (by omega))))
    refine qX5_at ?_
    refine ⟨by omega, fun x2 f2 => ?_⟩
    obtain rfl : x2 = u 34 := f2.trans ((rd_u 34 rfl (by omega) (by omega)).trans ((upg_ne (by omega)).trans (upg_ne (by omega))))
    refine ⟨by omega, fun x1 f1 => ?_⟩
    obtain rfl := f1.trans ((rd_W (by omega)).trans hW8)
    have S : ¬ (0 < x1 ∧ u 31 < 0) → OkE mX5_sums 106 [(105, 0), (0, r), (0, s), (0, x - u 10), (0, u 31), (9, 0), (9, 0)] [(0, u 34), (0, 400 * r + 8 + 98 * s + 34), (6300, 0 + 1)] (wk μ r g (setS v s (upg (upg u 32 (u 32 + cntV u)) 33 (u 33 + max (x - u 10) 0))) W) Q := by
      intro hc
      refine OkE.go snX5_sums [125] 100 ?_
      refine ⟨by omega, fun x2 f2 => ?_⟩
      obtain rfl := f2.trans ((rd_W (by omega)).trans hW9)
      refine ⟨by omega, fun q => ?_, fun q => ?_⟩
      · exact J125 _ (by rw [if_neg (by omega)])
      refine ⟨by omega, fun q2 => ?_, fun q2 => ?_⟩
      · exact J125 _ (by rw [if_neg (by omega)])
      · exact J125 _ (by rw [if_pos (by omega)])
    refine ⟨by omega, fun q => ?_, fun q => ?_⟩
    · exact S (by omega)
    refine ⟨by omega, fun q2 => ?_, fun q2 => ?_⟩
    · exact J125 _ (by rw [if_pos (by omega)])
    · exact S (by omega)
  refine MetP.go snX5_sums [63] 100 rfl rfl rfl rfl (fun _ => ?_)
  refine ⟨by omega, fun x1 f1 => ?_⟩
  obtain rfl := f1.trans ((rd_W (by omega)).trans hW2)
  refine qX5_at ?_
  refine ⟨by omega, fun x2 f2 => ?_⟩
  obtain rfl := f2.trans (rd_u 10 rfl (by omega) (by omega))
  refine qX5_at ?_
  refine ⟨by omega, fun x2 f2 => ?_⟩
  obtain rfl := f2.trans (rd_u 32 rfl (by omega) (by omega))
  refine qX5_countOf_u hr hs ?_
  refine ⟨by omega, fun ν d1 => ?_⟩
  obtain rfl := d1.trans (wr_u 32 rfl (by omega) (by omega))
  refine qX5_at ?_
  refine ⟨by omega, fun x2 f2 => ?_⟩
  obtain rfl : x2 = u 33 := f2.trans ((rd_u 33 rfl (by omega) (by omega)).trans (upg_ne (by omega)))
  refine ⟨by omega, fun q => ?_, fun q => ?_⟩
  · exact J63 _ (by omega)
  · exact J63 _ (by omega)
end M11

section T58
variable {N : Int} {μ ν : Mem} {g u : Int → Int} {v W : Mem} {Q : PV → Mem → Prop} {w x s c R : Int}
theorem BV_num {u' : Int → Int} (hB : BV u) (hw : 0 ≤ w ∧ w ≤ 8) (hx : stV 2 w ≤ x ∧ x ≤ stV 3 w) (hl : w = 0 → x ≤ u 1) (hm : w = 1 → u 0 ≤ x) (e : u' w = x) (n : ∀ j, j ≠ w → u' j = u j) : BV u' := by
  have ec : cntV u' = cntV u := by
    unfold cntV
    rw [n 10 (by omega), n 11 (by omega), n 12 (by omega), n 13 (by omega), n 14 (by omega), n 15 (by omega), n 16 (by omega), n 17 (by omega)]
  have L : ∀ j, 9 ≤ j → u' j = u j := fun j hj => n j (by omega)
  unfold BV at hB ⊢
  rw [ec]
  obtain ⟨h0, h1, h2, h3, h4, h5, h6, h7, h8, h9, h10, h11, h12, h13, h14, h15, h16, h17⟩ := hB
  have P : (0 ≤ u' 0 ∧ u' 0 ≤ 9) ∧ (1 ≤ u' 1 ∧ u' 1 ≤ 20) ∧ u' 0 ≤ u' 1 ∧ (0 ≤ u' 2 ∧ u' 2 ≤ 9) ∧ (1 ≤ u' 3 ∧ u' 3 ≤ 6) ∧ (1 ≤ u' 4 ∧ u' 4 ≤ 6) ∧ (0 ≤ u' 5 ∧ u' 5 ≤ 9) ∧ (0 ≤ u' 6 ∧ u' 6 ≤ 99) ∧ (0 ≤ u' 7 ∧ u' 7 ≤ 9) ∧ (1 ≤ u' 8 ∧ u' 8 ≤ 4) := by
    rcases (show w = 0 ∨ w = 1 ∨ w = 2 ∨ w = 3 ∨ w = 4 ∨ w = 5 ∨ w = 6 ∨ w = 7 ∨ w = 8 by omega) with rfl | rfl | rfl | rfl | rfl | rfl | rfl | rfl | rfl
    · have y : 0 ≤ x ∧ x ≤ 9 := hx
      have := hl rfl
      rw [e, n 1 (by omega), n 2 (by omega), n 3 (by omega), n 4 (by omega), n 5 (by omega), n 6 (by omega), n 7 (by omega), n 8 (by omega)]; omega
    · have y : 1 ≤ x ∧ x ≤ 20 := hx
      have := hm rfl
      rw [e, n 0 (by omega), n 2 (by omega), n 3 (by omega), n 4 (by omega), n 5 (by omega), n 6 (by omega), n 7 (by omega), n 8 (by omega)]; omega
    · have y : 0 ≤ x ∧ x ≤ 9 := hx
      rw [e, n 0 (by omega), n 1 (by omega), n 3 (by omega), n 4 (by omega), n 5 (by omega), n 6 (by omega), n 7 (by omega), n 8 (by omega)]; omega
    · have y : 1 ≤ x ∧ x ≤ 6 := hx
      rw [e, n 0 (by omega), n 1 (by omega), n 2 (by omega), n 4 (by omega), n 5 (by omega), n 6 (by omega), n 7 (by omega), n 8 (by omega)]; omega
    · have y : 1 ≤ x ∧ x ≤ 6 := hx
      rw [e, n 0 (by omega), n 1 (by omega), n 2 (by omega), n 3 (by omega), n 5 (by omega), n 6 (by omega), n 7 (by omega), n 8 (by omega)]; omega
    · have y : 0 ≤ x ∧ x ≤ 9 := hx
      rw [e, n 0 (by omega), n 1 (by omega), n 2 (by omega), n 3 (by omega), n 4 (by omega), n 6 (by omega), n 7 (by omega), n 8 (by omega)]; omega
    · have y : 0 ≤ x ∧ x ≤ 99 := hx
      rw [e, n 0 (by omega), n 1 (by omega), n 2 (by omega), n 3 (by omega), n 4 (by omega), n 5 (by omega), n 7 (by omega), n 8 (by omega)]; omega
    · have y : 0 ≤ x ∧ x ≤ 9 := hx
      rw [e, n 0 (by omega), n 1 (by omega), n 2 (by omega), n 3 (by omega), n 4 (by omega), n 5 (by omega), n 6 (by omega), n 8 (by omega)]; omega
    · have y : 1 ≤ x ∧ x ≤ 4 := hx
      rw [e, n 0 (by omega), n 1 (by omega), n 2 (by omega), n 3 (by omega), n 4 (by omega), n 5 (by omega), n 6 (by omega), n 7 (by omega)]; omega
  obtain ⟨p0, p1, p2, p3, p4, p5, p6, p7, p8, p9⟩ := P
  rw [L 9 (by omega), L 10 (by omega), L 11 (by omega), L 12 (by omega), L 13 (by omega), L 14 (by omega), L 15 (by omega), L 16 (by omega), L 17 (by omega), L 24 (by omega), L 31 (by omega)]
  refine ⟨p0, p1, p2, p3, p4, p5, p6, p7, p8, p9, h10, h11, h12, fun k p q => ?_, h14, fun k p q => ?_, h16, fun m' p q => ?_⟩
  · rw [L k (by omega)]; exact h13 k p q
  · rw [L k (by omega)]; exact h15 k p q
  · obtain ⟨a1, a2, a3, a4⟩ := h17 m' p q
    refine ⟨?_, ?_, ?_, fun k p2 q2 => ?_⟩
    · rw [L _ (by omega)]; exact a1
    · rw [L _ (by omega)]; exact a2
    · rw [L _ (by omega)]; exact a3
    · rw [L _ (by omega)]; exact a4 k p2 q2
end T58

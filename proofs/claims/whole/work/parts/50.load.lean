def I32 (x : Int) : Prop := -2147483648 ≤ x ∧ x ≤ 2147483647
section T50
variable {N : Int} {μ ν : Mem} {g u : Int → Int} {v : Mem} {Q : PV → Mem → Prop} {s m x c R : Int}
theorem qX5_isService (hs : I32 s) (hb : 0 ≤ ν 1 7 ∧ ν 1 7 ≤ 4) (h1 : 0 ≤ s ∧ s < ν 1 7 → Q (0, 1) ν) (h0 : ¬ (0 ≤ s ∧ s < ν 1 7) → Q (0, 0) ν) : MetP mX5_isService [(105, 0), (0, s)] ν Q := by
  refine MetP.go snX5_isService [] 100 rfl rfl rfl rfl (fun _ => ?_)
  unfold I32 at hs
  refine ⟨by omega, ?_⟩
  refine ⟨by omega, fun x1 e1 => ?_⟩
  obtain rfl : x1 = ν 1 7 := e1
  refine ⟨by omega, ?_⟩
  refine qX5_in (by omega) (by omega) (by omega) (fun q => ?_) (fun q => ?_)
  · exact ⟨by omega, h1 (by omega)⟩
  · exact ⟨by omega, h0 (by omega)⟩
theorem qX5_isMeasure (hs : I32 s) (hm : I32 m) (hb : 0 ≤ ν 1 7 ∧ ν 1 7 ≤ 4) (h9 : 0 ≤ s ∧ s < ν 1 7 → ν 1 (8 + 98 * s + 9) = x ∧ 0 ≤ x ∧ x ≤ 3) (h1 : 0 ≤ s ∧ s < ν 1 7 → 0 ≤ m ∧ m < x → Q (0, 1) ν) (h0 : ¬ ((0 ≤ s ∧ s < ν 1 7) ∧ (0 ≤ m ∧ m < x)) → Q (0, 0) ν) : MetP mX5_isMeasure [(105, 0), (0, s), (0, m)] ν Q := by
  refine MetP.go snX5_isMeasure [] 100 rfl rfl rfl rfl (fun _ => ?_)
  refine qX5_isService hs hb (fun q => ?_) (fun q => ?_)
  · refine ⟨by omega, fun q' => absurd q' (by omega), fun _ => ?_⟩
    unfold I32 at hm
    obtain ⟨k1, k2⟩ := h9 q
    refine ⟨by omega, ?_⟩
    refine qX5_at ?_
    refine ⟨by omega, fun x1 e1 => ?_⟩
    obtain rfl : x1 = x := e1.trans ((congrArg (ν 1) (by omega)).trans k1)
    refine ⟨by omega, ?_⟩
    refine qX5_in (by omega) (by omega) (by omega) (fun q2 => ?_) (fun q2 => ?_)
    · refine ⟨by omega, fun q' => absurd q' (by omega), fun _ => ?_⟩
      exact ⟨by omega, h1 q (by omega)⟩
    · refine ⟨by omega, fun _ => ?_, fun q' => absurd rfl q'⟩
      exact ⟨by omega, h0 (by omega)⟩
  · refine ⟨by omega, fun _ => ?_, fun q' => absurd rfl q'⟩
    exact ⟨by omega, h0 (fun q3 => q q3.1)⟩
theorem qX4_hasService (hs : I32 s) (hb : (μ 0 6 = 0) ∨ (μ 0 6 = 1 ∧ 0 ≤ μ 3 2 ∧ μ 3 2 ≤ 4)) (h1 : μ 0 6 = 1 → 0 ≤ s ∧ s < μ 3 2 → Q (0, 1) μ) (h0 : ¬ (μ 0 6 = 1 ∧ 0 ≤ s ∧ s < μ 3 2) → Q (0, 0) μ) : MetP mX4_hasService [(104, 0), (0, s)] μ Q := by
  refine MetP.go snX4_hasService [] 100 rfl rfl rfl rfl (fun _ => ?_)
  unfold I32 at hs
  intro x1 e1
  obtain rfl : x1 = μ 0 6 := e1
  refine ⟨by omega, fun q => ?_, fun q => ?_⟩
  · exact ⟨by omega, h0 (by omega)⟩
  · refine ⟨by omega, fun q2 => ?_, fun q2 => ?_⟩
    · exact ⟨by omega, h0 (by omega)⟩
    · intro x2 e2
      obtain rfl : x2 = μ 3 2 := e2
      refine ⟨by omega, by omega, fun q3 => ?_, fun q3 => ?_⟩
      · exact ⟨by omega, h0 (by omega)⟩
      · exact ⟨by omega, h1 (by omega) (by omega)⟩
theorem qX4_hasMeasure (hs : I32 s) (hm : I32 m) (hb : (μ 0 6 = 0) ∨ (μ 0 6 = 1 ∧ 0 ≤ μ 3 2 ∧ μ 3 2 ≤ 4)) (h9 : μ 0 6 = 1 → 0 ≤ s ∧ s < μ 3 2 → μ (6 + 12 * s) 2 = x ∧ 0 ≤ x ∧ x ≤ 3) (h1 : μ 0 6 = 1 → 0 ≤ s ∧ s < μ 3 2 → 0 ≤ m ∧ m < x → Q (0, 1) μ) (h0 : ¬ (μ 0 6 = 1 ∧ (0 ≤ s ∧ s < μ 3 2) ∧ (0 ≤ m ∧ m < x)) → Q (0, 0) μ) : MetP mX4_hasMeasure [(104, 0), (0, s), (0, m)] μ Q := by
  refine MetP.go snX4_hasMeasure [] 100 rfl rfl rfl rfl (fun _ => ?_)
  refine qX4_hasService hs hb (fun q0 q => ?_) (fun q => ?_)
  · refine ⟨by omega, fun q' => absurd q' (by omega), fun _ => ?_⟩
    unfold I32 at hm
    obtain ⟨k1, k2⟩ := h9 q0 q
    refine ⟨by omega, fun q2 => ?_, fun q2 => ?_⟩
    · exact ⟨by omega, h0 (by omega)⟩
    · refine ⟨by omega, ?_⟩
      intro x1 e1
      obtain rfl : x1 = x := e1.trans ((congrArg (fun z => μ z 2) (show (_ : Int) = 6 + 12 * s by dsimp only; omega)).trans k1)
      refine ⟨by omega, by omega, fun q3 => ?_, fun q3 => ?_⟩
      · exact ⟨by omega, h0 (by omega)⟩
      · exact ⟨by omega, h1 q0 q (by omega)⟩
  · refine ⟨by omega, fun _ => ?_, fun q' => absurd rfl q'⟩
    exact ⟨by omega, h0 (fun q3 => q ⟨q3.1, q3.2.1⟩)⟩
theorem RelS_val {u' : Int → Int} (hS : RelS μ c R u) (h9 : u 9 ≤ 3) (hm : 0 ≤ m ∧ m < u 9) (e : u' (37 + 21 * m) = x) (n : ∀ j, j ≠ 37 + 21 * m → u' j = u j) : RelS (upm μ (c + 2 + 1 + 2 * m) 2 x) c R u' := by
  obtain ⟨h1, h2, h3, h4, h5, h6, h7, h8, h10, h11⟩ := hS
  have w : ∀ a b, ¬ (a = c + 2 + 1 + 2 * m ∧ b = 2) → upm μ (c + 2 + 1 + 2 * m) 2 x a b = μ a b := fun a b hn => upm_ne hn
  have ec : cntV u' = cntV u := by
    unfold cntV
    rw [n 10 (by omega), n 11 (by omega), n 12 (by omega), n 13 (by omega), n 14 (by omega), n 15 (by omega), n 16 (by omega), n 17 (by omega)]
  refine ⟨fun k p q => ?_, ?_, fun k p q => ?_, ?_, fun k p q d => ?_, ?_, fun k p q => ?_, ?_, ?_, fun m' p q => ?_⟩
  · rw [w _ _ (by omega), n _ (by omega)]; exact h1 k p q
  · rw [w _ _ (by omega), w _ _ (by omega), w _ _ (by omega), n _ (by omega), n _ (by omega), ec]; exact h2
  · rw [w _ _ (by omega), n _ (by omega)]; exact h3 k p q
  · rw [w _ _ (by omega)]; exact h4
  · rw [w _ _ (by omega), n _ (by omega)]; exact h5 k p q d
  · rw [n _ (by omega)]; exact h6
  · rw [w _ _ (by omega), n _ (by omega), n _ (by omega)]; exact h7 k p q
  · rw [w _ _ (by omega), n _ (by omega)]; exact h8
  · rw [w _ _ (by omega), w _ _ (by omega), w _ _ (by omega), n _ (by omega), n _ (by omega), n _ (by omega)]; exact h10
  · rw [n 9 (by omega)] at q
    obtain ⟨a1, a2, a3, a4⟩ := h11 m' p q
    refine ⟨?_, ?_, ?_, fun k p2 q2 t => ?_⟩
    · rw [w _ _ (by omega), n _ (by omega)]; exact a1
    · rw [w _ _ (by omega), n _ (by omega)]; exact a2
    · by_cases hmm : m' = m
      · subst hmm; rw [e]; exact upm_at _ _ _ _
      · rw [w _ _ (by omega), n _ (by omega)]; exact a3
    · rw [w _ _ (by omega), n _ (by omega)]; exact a4 k p2 q2 t
theorem BV_val {u' : Int → Int} (hB : BV u) (hm : 0 ≤ m ∧ m < u 9) (hx : -1 ≤ x ∧ x ≤ 9999) (e : u' (37 + 21 * m) = x) (n : ∀ j, j ≠ 37 + 21 * m → u' j = u j) : BV u' := by
  have ec : cntV u' = cntV u := by
    unfold cntV
    rw [n 10 (by omega), n 11 (by omega), n 12 (by omega), n 13 (by omega), n 14 (by omega), n 15 (by omega), n 16 (by omega), n 17 (by omega)]
  have L : ∀ j, j < 37 → u' j = u j := fun j hj => n j (by omega)
  unfold BV at hB ⊢
  rw [ec]
  obtain ⟨h0, h1, h2, h3, h4, h5, h6, h7, h8, h9, h10, h11, h12, h13, h14, h15, h16, h17⟩ := hB
  rw [L 0 (by omega), L 1 (by omega), L 2 (by omega), L 3 (by omega), L 4 (by omega), L 5 (by omega), L 6 (by omega), L 7 (by omega), L 8 (by omega), L 9 (by omega), L 10 (by omega), L 11 (by omega), L 12 (by omega), L 13 (by omega), L 14 (by omega), L 15 (by omega), L 16 (by omega), L 17 (by omega), L 24 (by omega), L 31 (by omega)]
  refine ⟨h0, h1, h2, h3, h4, h5, h6, h7, h8, h9, h10, h11, h12, fun k p q => ?_, h14, fun k p q => ?_, h16, fun m' p q => ?_⟩
  · rw [L k (by omega)]; exact h13 k p q
  · rw [L k (by omega)]; exact h15 k p q
  · obtain ⟨a1, a2, a3, a4⟩ := h17 m' p q
    refine ⟨?_, ?_, ?_, fun k p2 q2 => ?_⟩
    · rw [n _ (by omega)]; exact a1
    · rw [n _ (by omega)]; exact a2
    · by_cases hmm : m' = m
      · subst hmm; rw [e]; exact hx
      · rw [n _ (by omega)]; exact a3
    · rw [n _ (by omega)]; exact a4 k p2 q2
end T50

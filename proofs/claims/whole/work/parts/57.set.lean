section T57
variable {N : Int} {μ ν : Mem} {g u : Int → Int} {v W : Mem} {Q : PV → Mem → Prop} {w x s c R : Int}
theorem qX5_highOf (hw : 0 ≤ w ∧ w ≤ 8) (hq : Q (0, stV 3 w) ν) : MetP mX5_highOf [(0, w)] ν Q := by
  refine MetP.go snX5_highOf [] 100 rfl rfl rfl rfl (fun _ => ?_)
  refine ⟨by omega, ?_⟩
  refine And.intro (fun q => ?_) (fun n1 => And.intro (fun q => ?_) (fun n2 => And.intro (fun q => ?_) (fun n3 => And.intro (fun q => ?_) (fun n4 => And.intro (fun q => ?_) (fun n5 => And.intro (fun q => ?_) (fun n6 => And.intro (fun q => ?_) (fun n7 => And.intro (fun q => ?_) (fun n8 => ?_))))))))
  · rw [show w = 1 from q] at hq; exact hq
  · rw [show w = 2 from q] at hq; exact hq
  · rw [show w = 3 from q] at hq; exact hq
  · rw [show w = 4 from q] at hq; exact hq
  · rw [show w = 5 from q] at hq; exact hq
  · rw [show w = 6 from q] at hq; exact hq
  · rw [show w = 7 from q] at hq; exact hq
  · rw [show w = 8 from q] at hq; exact hq
  · rw [show w = 0 by omega] at hq; exact hq
theorem RelS_num {u' : Int → Int} (hS : RelS μ c R u) (h9 : u 9 ≤ 3) (hw : 0 ≤ w ∧ w ≤ 8) (e : u' w = x) (n : ∀ j, j ≠ w → u' j = u j) : RelS (upm μ (c + 1) w x) c R u' := by
  obtain ⟨h1, h2, h3, h4, h5, h6, h7, h8, h10, h11⟩ := hS
  have k : ∀ a b, ¬ (a = c + 1 ∧ b = w) → upm μ (c + 1) w x a b = μ a b := fun a b hn => upm_ne hn
  have ec : cntV u' = cntV u := by
    unfold cntV
    rw [n 10 (by omega), n 11 (by omega), n 12 (by omega), n 13 (by omega), n 14 (by omega), n 15 (by omega), n 16 (by omega), n 17 (by omega)]
  refine ⟨fun j p q => ?_, ?_, fun j p q => ?_, ?_, fun j p q d => ?_, ?_, fun j p q => ?_, ?_, ?_, fun m' p q => ?_⟩
  · by_cases hj : j = w
    · subst hj; rw [e]; exact upm_at _ _ _ _
    · rw [k _ _ (by omega), n _ hj]; exact h1 j p q
  · rw [k _ _ (by omega), k _ _ (by omega), k _ _ (by omega), n _ (by omega), n _ (by omega), ec]; exact h2
  · rw [k _ _ (by omega), n _ (by omega)]; exact h3 j p q
  · rw [k _ _ (by omega)]; exact h4
  · rw [k _ _ (by omega), n _ (by omega)]; exact h5 j p q d
  · rw [n _ (by omega)]; exact h6
  · rw [k _ _ (by omega), n _ (by omega), n _ (by omega)]; exact h7 j p q
  · rw [k _ _ (by omega), n _ (by omega)]; exact h8
  · rw [k _ _ (by omega), k _ _ (by omega), k _ _ (by omega), n _ (by omega), n _ (by omega), n _ (by omega)]; exact h10
  · rw [n 9 (by omega)] at q
    obtain ⟨a1, a2, a3, a4⟩ := h11 m' p q
    refine ⟨?_, ?_, ?_, fun j p2 q2 t => ?_⟩
    · rw [k _ _ (by omega), n _ (by omega)]; exact a1
    · rw [k _ _ (by omega), n _ (by omega)]; exact a2
    · rw [k _ _ (by omega), n _ (by omega)]; exact a3
    · rw [k _ _ (by omega), n _ (by omega)]; exact a4 j p2 q2 t
end T57

section X15
variable {μ : Mem} {h p R : Int} {g u : Int → Int} {v : Mem} {Q : PV → Mem → Prop}
theorem qX4_keepForUndo {n t : Int} (hn : 0 ≤ n ∧ n ≤ 9) (ht : 0 ≤ t ∧ t ≤ 10) (e4 : μ 0 4 = n) (e5 : μ 0 5 = t) (h7 : 0 ≤ g 7 ∧ g 7 ≤ 4) (h6 : 0 ≤ g 6) (hB : ∀ s, 0 ≤ s → s < g 7 → BV (v s)) (hH : RelH μ 3 g v)
    (hq : ∀ μ', RelH μ' (106 + 51 * n) g v → μ' 0 4 = (if n = 9 then 0 else n + 1) → μ' 0 5 = min (t + 1) 10 → (∀ a b, ¬ (106 + 51 * n ≤ a ∧ a < 106 + 51 * n + 51) → ¬ (a = 0 ∧ (b = 4 ∨ b = 5)) → μ' a b = μ a b) → Q (9, 0) μ') : MetP mX4_keepForUndo [(104, 0)] μ Q := by
  refine MetP.go snX4_keepForUndo [36] 100 rfl rfl rfl rfl (fun _ => ?_)
  intro x1 d1
  obtain rfl : x1 = n := d1.trans e4
  refine ⟨by omega, ?_⟩
  have e : (105 : Int) + 1 + 51 * x1 = 106 + 51 * x1 := by omega
  refine qX0_copyFrom (g := g) (v := v) (by omega) h7 h6 hB hH (fun μ1 r1 f1 => ?_)
  have J : ∀ z, z = (if x1 = 9 then 0 else x1 + 1) → OkE mX4_keepForUndo 36 [(104, 0)] [(0, z), (104, 0)] μ1 Q := by
    intro z hz
    refine OkE.go snX4_keepForUndo [] 100 ?_
    intro μ2 d2
    have n2 : ∀ a b, ¬ (a = 0 ∧ b = 4) → μ2 a b = μ1 a b := fun a b hn => by rw [d2]; exact upm_ne hn
    intro x3 d3
    obtain rfl : x3 = t := d3.trans ((n2 0 5 (by omega)).trans ((f1 0 5 (by omega)).trans e5))
    refine ⟨by omega, by omega, ?_⟩
    intro μ4 d4
    have n4 : ∀ a b, ¬ (a = 0 ∧ b = 5) → μ4 a b = μ2 a b := fun a b hn => by rw [d4]; exact upm_ne hn
    refine hq μ4 ?_ ?_ ?_ (fun a b p1 p2 => ?_)
    · exact r1.frame h7.2 hB (fun a b p1 p2 => by rw [n4 a b (by omega), n2 a b (by omega)])
    · rw [n4 _ _ (by omega), d2, ← hz]; exact upm_at _ _ _ _
    · rw [d4]; exact upm_at _ _ _ _
    · rw [n4 a b (by omega), n2 a b (by omega)]; exact f1 a b (by omega)
  intro x3 d3
  obtain rfl : x3 = x1 := d3.trans ((f1 0 4 (by omega)).trans e4)
  refine ⟨by omega, by omega, fun q => ?_, fun q => ?_⟩
  · intro x4 d4
    obtain rfl : x4 = x3 := d4.trans ((f1 0 4 (by omega)).trans e4)
    exact J _ (by rw [if_neg (by omega)])
  · exact J _ (by rw [if_pos (by omega)])
theorem qX4_afterOneRound {s : Int} (W : Mem) (hs : 0 ≤ s ∧ s < 4) (hG : BG g) (h6 : g 6 < 100000) (hB : ∀ s, 0 ≤ s → s < g 7 → BV (v s)) (hH : RelH μ 3 g v)
    (hq : ∀ μ', RelG μ' 54 (doesX g v W).1 → (∀ s, 0 ≤ s → s < g 7 → RelS μ' (57 + 12 * s) (g 6 + 1) ((doesX g v W).2.1 s)) → (∀ s, 0 ≤ s → s < g 7 → PlF μ' (57 + 12 * s) ((d4 g v W).2.2 2 s) ((d4 g v W).2.2 3 s) ((d4 g v W).2.2 4 s) ((d4 g v W).2.2 5 s) ((d4 g v W).2.2 7 s)) → FrH μ μ' 54 → Q (102, 57 + 12 * s) μ') : MetP mX4_afterOneRound [(104, 0), (0, s)] μ Q := by
  obtain ⟨g0, g1, g2, g3, g4, g5, g6, g7⟩ := id hG
  refine MetP.go snX4_afterOneRound [] 100 rfl rfl rfl rfl (fun _ => ?_)
  refine qX0_copyFrom (g := g) (v := v) (by omega) (by omega) (by omega) hB hH (fun μ1 r1 f1 => ?_)
  refine qX0_playRound W hG h6 hB r1.1 r1.2 (fun μ2 k1 k2 k3 k4 => ?_)
  refine ⟨by omega, ?_⟩
  exact hq μ2 k1 k2 k3 (fun a b hn => (k4 a b hn).trans (f1 a b hn))
end X15

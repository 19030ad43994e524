section T49
variable {N : Int} {μ ν : Mem} {g : Int → Int} {v : Mem} {Q : PV → Mem → Prop}
theorem ag_undo (h : REL N μ ν) : MetP mX5_undo [(105, 0)] ν (fun b ν' => MetP mX4_undo [(104, 0)] μ (fun a μ' => a = b ∧ REL N μ' ν')) := by
  obtain ⟨hT, hn, hs⟩ := id h
  refine MetP.go snX5_undo [] 100 rfl rfl rfl rfl (fun _ => ?_)
  rcases hs with ⟨s1, s2⟩ | ⟨s1, t, g, v, ht, s2, s3, s4, s5, s6, s7⟩
  · refine qX5_isHouse (fun _ => ?_) (fun q => absurd q (by omega)) (by omega)
    refine ⟨by omega, fun q => absurd rfl q, fun q => ?_⟩
    refine MetP.go snX4_undo [] 100 rfl rfl rfl rfl (fun _ => ?_)
    intro x1 e1
    obtain rfl : x1 = 0 := e1.trans s1
    refine ⟨by omega, fun q => absurd rfl q, fun q => ?_⟩
    exact ⟨rfl, h⟩
  · obtain ⟨bG, b6, bV⟩ := id s5
    have b7 := bG.2.2.2.2.2.2.2
    have e7 : ν 1 7 = g 7 := RwM_g s4 7 (by omega)
    refine qX5_isHouse (fun q => absurd q (by omega)) (fun _ => ?_) (by omega)
    refine ⟨by omega, fun q => ?_, fun q => absurd q (by omega)⟩
    intro x1 e1
    obtain rfl : x1 = t := e1.trans s3
    refine ⟨by omega, fun q => ?_, fun q => ?_⟩
    · intro x2 e2
      obtain rfl : x2 = x1 := e2.trans s3
      refine qX5_copies (by omega) (by omega) (by omega) ?_
      obtain ⟨g', v', d1, d2, d3⟩ := s7 x2 (by omega) (by omega)
      obtain ⟨cG, c6, cV⟩ := id d2
      have c7 := cG.2.2.2.2.2.2.2
      have c60 := cG.2.2.2.2.2.2.1
      rw [RwM_cp d1]
      intro x3 e3
      obtain rfl : x3 = x2 := e3.trans ((rd_o (by omega)).trans s3)
      intro ν2 d4
      have n2 : ∀ a b, ¬ (a = 0 ∧ b = 1) → ν2 a b = wk ν 0 g' v' ν a b := fun a b hn => by rw [d4]; exact upm_ne hn
      have n1 : ν2 0 1 = x3 - 1 := by rw [d4]; exact upm_at _ _ _ _
      intro x4 e4
      obtain rfl : x4 = x3 - 1 := e4.trans n1
      refine MetP.go snX4_undo [39] 100 rfl rfl rfl rfl (fun _ => ?_)
      intro x5 e5
      obtain rfl : x5 = 1 := e5.trans s1
      refine ⟨by omega, fun q => ?_, fun q => absurd q (by omega)⟩
      intro x6 e6
      obtain rfl : x6 = x3 := e6.trans s2
      refine ⟨by omega, fun q => ?_, fun q' => absurd q' (by omega)⟩
      have J : ∀ z, z = (μ 0 4 - 1) % 10 → OkE mX4_undo 39 [(104, 0)] [(0, z), (104, 0)] μ (fun a μ' => a = (0, x6 - 1) ∧ REL N μ' ν2) := by
        intro z hz
        refine OkE.go snX4_undo [] 100 ?_
        intro μ1 k1
        have m1 : ∀ a b, ¬ (a = 0 ∧ b = 4) → μ1 a b = μ a b := fun a b hn => by rw [k1]; exact upm_ne hn
        have m4 : μ1 0 4 = z := by rw [k1]; exact upm_at _ _ _ _
        intro x7 e7
        obtain rfl : x7 = z := e7.trans m4
        refine ⟨by omega, ?_⟩
        have ez : (μ 0 4 + x6 - x6 - 1) % 10 = x7 := by rw [hz]; congr 1; omega
        rw [ez] at d3
        have d3' : RelH μ1 (106 + 51 * x7) g' v' := d3.frame c7.2 cV (fun a b q1 q2 => m1 a b (by omega))
        refine qX0_copyFrom (g := g') (v := v') (by omega) (by omega) (by omega) cV d3' (fun μ2 r2 f2 => ?_)
        intro x8 e8
        obtain rfl : x8 = x6 := e8.trans ((f2 0 5 (by omega)).trans ((m1 0 5 (by omega)).trans s2))
        intro μ3 k3
        have m3 : ∀ a b, ¬ (a = 0 ∧ b = 5) → μ3 a b = μ2 a b := fun a b hn => by rw [k3]; exact upm_ne hn
        have m5 : μ3 0 5 = x8 - 1 := by rw [k3]; exact upm_at _ _ _ _
        intro x9 e9
        obtain rfl : x9 = x8 - 1 := e9.trans m5
        refine ⟨rfl, ?_⟩
        have f3 : ∀ a b, ¬ (a = 0 ∧ (b = 4 ∨ b = 5)) → ¬ (3 ≤ a ∧ a < 54) → μ3 a b = μ a b := fun a b p q => by
          rw [m3 a b (by omega), f2 a b (by omega), m1 a b (by omega)]
        have w4 : μ3 0 4 = x7 := by rw [m3 0 4 (by omega), f2 0 4 (by omega)]; exact m4
        refine ⟨hT.keep (fun a b p => f3 a b (by omega) (by omega)) ?_ ?_ (fun i => ?_), by omega, Or.inr ⟨?_, x8 - 1, g', v', by omega, m5, n1, RwM_eq RwM_of (fun i p q => n2 1 i (by omega)), d2, r2.frame c7.2 cV (fun a b p q => m3 a b (by omega)), ?_⟩⟩
        · rw [n2 0 11 (by omega)]; exact rd_o (by omega)
        · rw [n2 0 12 (by omega)]; exact rd_o (by omega)
        · rw [n2 10 i (by omega)]; exact rd_o (by omega)
        · rw [f3 0 6 (by omega) (by omega)]; exact s1
        · rw [w4]
          intro k p q
          obtain ⟨g2, v2, y1, y2, y3⟩ := s7 k p (by omega)
          have ek : (x7 + k - (x8 - 1) - 1) % 10 = (μ 0 4 + k - x8 - 1) % 10 := by omega
          rw [ek]
          refine ⟨g2, v2, fun i p2 q2 => ?_, y2, ?_⟩
          · rw [n2 1 _ (by omega), rd_r k i rfl rfl (by omega)]; exact y1 i p2 q2
          · exact y3.frame y2.1.2.2.2.2.2.2.2.2 y2.2.2 (fun a b q1 q2 => f3 a b (by omega) (by omega))
      intro x7 e7
      obtain rfl : x7 = μ 0 4 := e7
      refine ⟨by omega, fun q => ?_, fun q => ?_⟩
      · intro x8 e8
        obtain rfl : x8 = μ 0 4 := e8
        exact J _ (by omega)
      · exact J _ (by omega)
    · refine MetP.go snX4_undo [] 100 rfl rfl rfl rfl (fun _ => ?_)
      intro x5 e5
      obtain rfl : x5 = 1 := e5.trans s1
      refine ⟨by omega, fun q => ?_, fun q => absurd q (by omega)⟩
      intro x6 e6
      obtain rfl : x6 = x1 := e6.trans s2
      refine ⟨by omega, fun q' => absurd q' (by omega), fun q => ?_⟩
      exact ⟨rfl, h⟩
end T49

section T60
variable {N : Int} {μ ν : Mem}
/-- what is only tried leaves the relation -/
theorem REL.tried {μ' ν' : Mem} (h : REL N μ ν) (hμ : ∀ a b, ¬ (54 ≤ a ∧ a < 105) → μ' a b = μ a b) (h1 : ∀ i, i < 4400 → ν' 1 i = ν 1 i) (h01 : ν' 0 1 = ν 0 1) (h11 : ν' 0 11 = ν 0 11) (h12 : ν' 0 12 = ν 0 12) (h10 : ∀ i, ν' 10 i = ν 10 i) : REL N μ' ν' := by
  obtain ⟨a1, a2, a3⟩ := h
  have e4 := hμ 0 4 (by omega)
  refine ⟨a1.keep (fun a b p => hμ a b (by omega)) h11 h12 h10, by rw [e4]; exact a2, ?_⟩
  rcases a3 with ⟨s1, s2⟩ | ⟨s1, t, g, v, ht, s2, s3, s4, s5, s6, s7⟩
  · exact Or.inl ⟨by rw [hμ 0 6 (by omega)]; exact s1, by rw [h1 7 (by omega)]; exact s2⟩
  · have b7 := s5.1.2.2.2.2.2.2.2
    refine Or.inr ⟨by rw [hμ 0 6 (by omega)]; exact s1, t, g, v, ht, by rw [hμ 0 5 (by omega)]; exact s2, by rw [h01]; exact s3, RwM_eq s4 (fun i _ _ => h1 i (by omega)), s5, s6.frame b7.2 s5.2.2 (fun a b p q => hμ a b (by omega)), ?_⟩
    rw [e4]
    intro k p q
    obtain ⟨g', v', d1, d2, d3⟩ := s7 k p q
    exact ⟨g', v', RwM_eq d1 (fun i _ _ => h1 i (by omega)), d2, d3.frame d2.1.2.2.2.2.2.2.2.2 d2.2.2 (fun a b q1 q2 => hμ a b (by omega))⟩
theorem REL.wk11 {μ' : Mem} {g : Int → Int} {v W : Mem} (h : REL N μ ν) (hμ : ∀ a b, ¬ (54 ≤ a ∧ a < 105) → μ' a b = μ a b) : REL N μ' (wk ν 11 g v W) := by
  refine h.tried hμ (fun i hi => ?_) (rd_o (by omega)) (rd_o (by omega)) (rd_o (by omega)) (fun i => rd_o (by omega))
  unfold wk
  rw [if_neg (by omega), if_neg (by omega)]
end T60

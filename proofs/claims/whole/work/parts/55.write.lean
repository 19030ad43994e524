section T55
variable {N : Int} {μ ν : Mem} {g u : Int → Int} {v : Mem} {Q : PV → Mem → Prop} {w t s : Int}
theorem REL.text {μ' ν' : Mem} (h : REL N μ ν) (hT : TXT μ' ν') (hμ : ∀ a b, ¬ (a = 1 ∨ a = 2) → μ' a b = μ a b) (h1 : ∀ i, ν' 1 i = ν 1 i) (h01 : ν' 0 1 = ν 0 1) : REL N μ' ν' := by
  obtain ⟨a1, a2, a3⟩ := h
  have e4 := hμ 0 4 (by omega)
  refine ⟨hT, by rw [e4]; exact a2, ?_⟩
  rcases a3 with ⟨s1, s2⟩ | ⟨s1, t, g, v, ht, s2, s3, s4, s5, s6, s7⟩
  · exact Or.inl ⟨by rw [hμ 0 6 (by omega)]; exact s1, by rw [h1]; exact s2⟩
  · have b7 := s5.1.2.2.2.2.2.2.2
    refine Or.inr ⟨by rw [hμ 0 6 (by omega)]; exact s1, t, g, v, ht, by rw [hμ 0 5 (by omega)]; exact s2, by rw [h01]; exact s3, RwM_eq s4 (fun i _ _ => h1 i), s5, s6.frame b7.2 s5.2.2 (fun a b p q => hμ a b (by omega)), ?_⟩
    rw [e4]
    intro k p q
    obtain ⟨g', v', d1, d2, d3⟩ := s7 k p q
    exact ⟨g', v', RwM_eq d1 (fun i _ _ => h1 i), d2, d3.frame d2.1.2.2.2.2.2.2.2.2 d2.2.2 (fun a b q1 q2 => hμ a b (by omega))⟩
theorem qX3_takesIn {n : Int} (hn : 0 ≤ n ∧ n ≤ 160) (e : μ 1 1 = n) (h0 : n = 160 → Q (0, 0) μ) (h1 : n < 160 → Q (0, 1) (upm (upm μ 2 n w) 1 1 (n + 1))) : MetP mX3_takesIn [(103, 1), (0, w)] μ Q := by
  refine MetP.go snX3_takesIn [] 100 rfl rfl rfl rfl (fun _ => ?_)
  intro x1 e1
  obtain rfl : x1 = n := e1.trans e
  refine ⟨by omega, by omega, fun q => ?_, fun q => ?_⟩
  · intro x2 e2
    obtain rfl : x2 = x1 := e2.trans e
    refine ⟨by omega, fun μ1 d1 => ?_⟩
    intro x3 e3
    have e3' : x3 = x2 := by rw [e3, d1]; exact (upm_ne (by show ¬ ((1 : Int) = 2 ∧ _); omega)).trans e
    subst e3'
    intro μ2 d2
    have k : μ2 = upm (upm μ 2 x3 w) 1 1 (x3 + 1) := by rw [d2, d1]; rfl
    rw [k]
    exact ⟨by omega, h1 q⟩
  · exact ⟨by omega, h0 (by omega)⟩
theorem ag_write (hw : I32 w) (h : REL N μ ν) : MetP mX5_write [(105, 0), (0, w)] ν (fun b ν' => MetP mX4_write [(104, 0), (0, w)] μ (fun a μ' => a = b ∧ REL N μ' ν')) := by
  obtain ⟨t1, t2, t3, t4⟩ := h.1
  unfold I32 at hw
  refine MetP.go snX5_write [] 100 rfl rfl rfl rfl (fun _ => ?_)
  refine ⟨by omega, ?_⟩
  refine qX5_in (by omega) (by omega) (by omega) (fun q => ?_) (fun q => ?_)
  · refine ⟨by omega, fun _ => ?_, fun q => absurd q (by omega)⟩
    intro x1 e1
    obtain rfl : x1 = ν 0 11 := e1
    refine ⟨by omega, by omega, fun q2 => ?_, fun q2 => ?_⟩
    · intro x2 e2
      obtain rfl : x2 = ν 0 11 := e2
      refine ⟨by omega, fun ν1 d1 => ?_⟩
      have n1 : ∀ a b, ¬ (a = 10 ∧ b = ν 0 11) → ν1 a b = ν a b := fun a b hn => by rw [d1]; exact upm_ne hn
      have v1 : ν1 10 (ν 0 11) = w := by rw [d1]; exact upm_at _ _ _ _
      intro x3 e3
      obtain rfl : x3 = ν 0 11 := e3.trans (n1 0 11 (by omega))
      intro ν2 d2
      have n2 : ∀ a b, ¬ (a = 0 ∧ b = 11) → ν2 a b = ν1 a b := fun a b hn => by rw [d2]; exact upm_ne hn
      have v2 : ν2 0 11 = ν 0 11 + 1 := by rw [d2]; exact upm_at _ _ _ _
      intro x4 e4
      obtain rfl : x4 = ν 0 11 + 1 := e4.trans v2
      refine MetP.go snX4_write [] 100 rfl rfl rfl rfl (fun _ => ?_)
      refine ⟨by omega, fun q => absurd q (by omega), fun _ => ?_⟩
      refine ⟨by omega, by omega, fun _ => ?_, fun q => absurd q (by omega)⟩
      refine qX3_takesIn t1 t2 (fun q => absurd q q2) (fun _ => ?_)
      refine ⟨by omega, fun q => absurd q (by omega), fun _ => ?_⟩
      intro x5 e5
      obtain rfl : x5 = ν 0 11 + 1 := e5.trans (upm_at _ _ _ _)
      refine ⟨rfl, h.text ⟨by rw [v2]; omega, by rw [v2]; exact upm_at _ _ _ _, fun i p q => ?_, ?_⟩ (fun a b hn => ?_) (fun i => ?_) ?_⟩
      · rw [v2] at q
        rw [n2 _ _ (by omega), upm_ne (by omega)]
        by_cases hi : i = ν 0 11
        · subst hi; rw [v1]; exact ⟨upm_at _ _ _ _, by omega⟩
        · rw [n1 _ _ (by omega), upm_ne (by omega)]; exact t3 i p (by omega)
      · rw [n2 _ _ (by omega), n1 _ _ (by omega), upm_ne (by omega), upm_ne (by omega)]; exact t4
      · rw [upm_ne (by omega), upm_ne (by omega)]
      · rw [n2 _ _ (by omega), n1 _ _ (by omega)]
      · rw [n2 _ _ (by omega), n1 _ _ (by omega)]
    · refine MetP.go snX4_write [] 100 rfl rfl rfl rfl (fun _ => ?_)
      refine ⟨by omega, fun q => absurd q (by omega), fun _ => ?_⟩
      refine ⟨by omega, by omega, fun _ => ?_, fun q => absurd q (by omega)⟩
      refine qX3_takesIn t1 t2 (fun _ => ?_) (fun q => absurd q (by omega))
      refine ⟨by omega, fun _ => ?_, fun q => absurd rfl q⟩
      exact ⟨rfl, h⟩
  · refine ⟨by omega, fun q => absurd rfl q, fun _ => ?_⟩
    refine MetP.go snX4_write [] 100 rfl rfl rfl rfl (fun _ => ?_)
    refine ⟨by omega, fun q => ⟨rfl, h⟩, fun _ => ?_⟩
    refine ⟨by omega, by omega, fun q3 => absurd q3 (by omega), fun q => ⟨rfl, h⟩⟩
end T55

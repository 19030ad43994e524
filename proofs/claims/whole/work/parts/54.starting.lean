section T54
variable {N : Int} {μ ν : Mem} {g u : Int → Int} {v : Mem} {Q : PV → Mem → Prop} {w t s : Int}
theorem qX4_starting (hs : 0 ≤ s ∧ s < g 7) (hw : I32 w) (bG : BG g) (s1 : μ 0 6 = 1) (s6 : RelH μ 3 g v) (hq : ∀ y, y = (if g 6 ≤ w ∧ w ≤ g 6 + 6 then v s (11 + (w - g 6)) else -1000002) → Q (0, y) μ) : MetP mX4_starting [(104, 0), (0, s), (0, w)] μ Q := by
  have b7 := bG.2.2.2.2.2.2.2
  have b6 := bG.2.2.2.2.2.2.1
  obtain ⟨⟨a1, a2, a3, a4⟩, a5⟩ := s6
  unfold I32 at hw
  refine MetP.go snX4_starting [] 100 rfl rfl rfl rfl (fun _ => ?_)
  refine qX4_hasService (by unfold I32; omega) (by omega) (fun _ q => ?_) (fun q => absurd q (by omega))
  refine ⟨by omega, fun _ => ?_, fun q => absurd q (by omega)⟩
  intro x1 e1
  obtain rfl : x1 = g 6 := e1.trans a4
  refine ⟨by omega, by omega, fun q => ?_, fun q => ?_⟩
  · exact hq _ (by rw [if_neg (by omega)])
  · intro x2 e2
    obtain rfl : x2 = g 6 := e2.trans a4
    refine ⟨by omega, by omega, fun q2 => ?_, fun q2 => ?_⟩
    · refine ⟨by omega, ?_⟩
      refine ⟨by omega, by omega, ?_⟩
      refine ⟨by omega, fun x3 e3 => hq x3 ?_⟩
      rw [if_pos (by omega)]
      have k := (a5 s hs.1 hs.2).2.2.1 (w - g 6) (by omega) (by omega)
      rw [show g 6 + (w - g 6) = w by omega] at k
      exact e3.trans k
    · exact hq _ (by rw [if_neg (by omega)])
/-- a call that asks for a service: without it both answer UNKNOWN -/
theorem ag_starting (hs : I32 s) (hw : I32 w) (h : REL N μ ν) : MetP mX5_starting [(105, 0), (0, s), (0, w)] ν (fun b ν' => MetP mX4_starting [(104, 0), (0, s), (0, w)] μ (fun a μ' => a = b ∧ REL N μ' ν')) := by
  obtain ⟨hT, hn, hst⟩ := id h
  rcases hst with ⟨s1, s2⟩ | ⟨s1, t, g, v, ht, s2, s3, s4, s5, s6, s7⟩
  · refine MetP.go snX5_starting [] 100 rfl rfl rfl rfl (fun _ => ?_)
    refine qX5_isService hs (by omega) (fun q => absurd q (by omega)) (fun q => ?_)
    refine ⟨by omega, fun q => absurd rfl q, fun q => ?_⟩
    refine MetP.go snX4_starting [] 100 rfl rfl rfl rfl (fun _ => ?_)
    refine qX4_hasService hs (Or.inl s1) (fun q => absurd q (by omega)) (fun q => ?_)
    refine ⟨by omega, fun q => absurd rfl q, fun q => ?_⟩
    exact ⟨rfl, h⟩
  · have b7 := s5.1.2.2.2.2.2.2.2
    have e7 : ν 1 7 = g 7 := RwM_g s4 7 (by omega)
    have d7 : μ 3 2 = g 7 := s6.1.2.1
    by_cases hss : 0 ≤ s ∧ s < g 7
    · refine qX5_starting hss hw s5.1 s4 (fun y hy => ?_)
      refine qX4_starting hss hw s5.1 s1 s6 (fun z hz => ?_)
      obtain rfl : z = y := hz.trans hy.symm
      exact ⟨rfl, h⟩
    · refine MetP.go snX5_starting [] 100 rfl rfl rfl rfl (fun _ => ?_)
      refine qX5_isService hs (by omega) (fun q => absurd q (by omega)) (fun q => ?_)
      refine ⟨by omega, fun q => absurd rfl q, fun q => ?_⟩
      refine MetP.go snX4_starting [] 100 rfl rfl rfl rfl (fun _ => ?_)
      refine qX4_hasService hs (Or.inr ⟨s1, by omega⟩) (fun _ q => absurd q (by omega)) (fun q => ?_)
      refine ⟨by omega, fun q => absurd rfl q, fun q => ?_⟩
      exact ⟨rfl, h⟩
end T54

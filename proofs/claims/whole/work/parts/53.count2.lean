section T53
variable {N : Int} {μ ν : Mem} {g u : Int → Int} {v : Mem} {Q : PV → Mem → Prop} {w t : Int}
theorem qX4_count (hw : I32 w) (h10 : w ≠ 10) (b7 : 1 ≤ g 7 ∧ g 7 ≤ 4) (s1 : μ 0 6 = 1) (s2 : μ 0 5 = t) (s6 : RelH μ 3 g v) (hq : ∀ y, y = cntA g t (sumI (fun s => cntV (v s)) (g 7)) w → Q (0, y) μ) : MetP mX4_count [(104, 0), (0, w)] μ Q := by
  unfold cntA at hq
  unfold I32 at hw
  obtain ⟨⟨a1, a2, a3, a4⟩, a5⟩ := s6
  have J : ¬ (4 ≤ w ∧ w ≤ 8) → OkE mX4_count 47 [(104, 0), (0, w)] [] μ Q := by
    intro hc
    refine OkE.go snX4_count [] 100 ?_
    refine ⟨by omega, ?_⟩
    refine And.intro (fun q => ?_) (fun n0 => And.intro (fun q => ?_) (fun n1 => And.intro (fun q => ?_) (fun n2 => And.intro (fun q => ?_) (fun n3 => And.intro (fun q => ?_) (fun n4 => And.intro (fun q => ?_) (fun n5 => And.intro (fun q => ?_) (fun n6 => And.intro (fun q => ?_) (fun n7 => And.intro (fun q => ?_) (fun n8 => And.intro (fun q => ?_) (fun n9 => ?_))))))))))
    · intro x1 e1
      refine hq x1 ?_
      rw [if_pos q]; exact e1.trans a4
    · intro x1 e1
      refine hq x1 ?_
      rw [if_neg (by omega), if_pos q]; exact e1.trans a2
    · refine qX0_servers (f := fun s => cntV (v s)) (n := g 7) b7 a2 (fun s p q => (a5 s p q).2.1.2.1) ?_
      refine hq _ ?_
      rw [if_neg (by omega), if_neg (by omega), if_pos q]
    · intro x1 e1
      refine hq x1 ?_
      rw [if_neg (by omega), if_neg (by omega), if_neg (by omega), if_pos q]; exact e1.trans a3
    · exact absurd q (by omega)
    · exact absurd q (by omega)
    · exact absurd q (by omega)
    · exact absurd q (by omega)
    · exact absurd q (by omega)
    · intro x1 e1
      refine hq x1 ?_
      rw [if_neg (by omega), if_neg (by omega), if_neg (by omega), if_neg (by omega), if_pos q]; exact e1.trans s2
    · refine hq _ ?_
      rw [if_neg (by omega), if_neg (by omega), if_neg (by omega), if_neg (by omega), if_neg (by omega), if_neg (by omega)]
  refine MetP.go snX4_count [47] 100 rfl rfl rfl rfl (fun _ => ?_)
  refine ⟨by omega, by omega, fun _ => ?_, fun q => absurd h10 q⟩
  intro x1 e1
  obtain rfl : x1 = 1 := e1.trans s1
  refine ⟨by omega, fun _ => ?_, fun q => absurd q (by omega)⟩
  refine ⟨by omega, by omega, fun q => J (by omega), fun q => ?_⟩
  refine ⟨by omega, by omega, fun q2 => J (by omega), fun q2 => ?_⟩
  refine ⟨by omega, fun x2 e2 => hq x2 ?_⟩
  rw [if_neg (by omega), if_neg (by omega), if_neg (by omega), if_neg (by omega), if_neg (by omega), if_pos (by omega)]
  exact e2.trans (a1 (w - 4) (by omega) (by omega))
theorem ag_count (hw : I32 w) (h : REL N μ ν) : MetP mX5_count [(105, 0), (0, w)] ν (fun b ν' => MetP mX4_count [(104, 0), (0, w)] μ (fun a μ' => a = b ∧ REL N μ' ν')) := by
  obtain ⟨hT, hn, hst⟩ := id h
  have hw' := hw
  unfold I32 at hw'
  by_cases h10 : w = 10
  · refine MetP.go snX5_count [] 100 rfl rfl rfl rfl (fun _ => ?_)
    refine ⟨by omega, by omega, fun q => absurd h10 q, fun _ => ?_⟩
    intro x1 e1
    refine MetP.go snX4_count [] 100 rfl rfl rfl rfl (fun _ => ?_)
    refine ⟨by omega, by omega, fun q => absurd h10 q, fun _ => ?_⟩
    intro x2 e2
    have e : x2 = x1 := e2.trans (hT.2.1.trans e1.symm)
    subst e
    exact ⟨rfl, h⟩
  · rcases hst with ⟨s1, s2⟩ | ⟨s1, t, g, v, ht, s2, s3, s4, s5, s6, s7⟩
    · refine MetP.go snX5_count [] 100 rfl rfl rfl rfl (fun _ => ?_)
      refine ⟨by omega, by omega, fun _ => ?_, fun q => absurd h10 q⟩
      refine qX5_isHouse (fun _ => ?_) (fun q => absurd q (by omega)) (by omega)
      refine ⟨by omega, fun q => absurd rfl q, fun q => ?_⟩
      refine MetP.go snX4_count [] 100 rfl rfl rfl rfl (fun _ => ?_)
      refine ⟨by omega, by omega, fun _ => ?_, fun q => absurd h10 q⟩
      intro x1 e1
      obtain rfl : x1 = 0 := e1.trans s1
      refine ⟨by omega, fun q => absurd rfl q, fun q => ?_⟩
      exact ⟨rfl, h⟩
    · have b7 := s5.1.2.2.2.2.2.2.2
      refine qX5_count hw h10 b7 s3 s4 (fun y hy => ?_)
      refine qX4_count hw h10 b7 s1 s2 s6 (fun z hz => ?_)
      obtain rfl : z = y := hz.trans hy.symm
      exact ⟨rfl, h⟩
theorem qX5_starting {s : Int} (hs : 0 ≤ s ∧ s < g 7) (hw : I32 w) (bG : BG g) (s4 : RwM ν 0 g v) (hq : ∀ y, y = (if g 6 ≤ w ∧ w ≤ g 6 + 6 then v s (11 + (w - g 6)) else -1000002) → Q (0, y) ν) : MetP mX5_starting [(105, 0), (0, s), (0, w)] ν Q := by
  have b7 := bG.2.2.2.2.2.2.2
  have b6 := bG.2.2.2.2.2.2.1
  have e7 : ν 1 7 = g 7 := RwM_g s4 7 (by omega)
  have e6 : ν 1 6 = g 6 := RwM_g s4 6 (by omega)
  unfold I32 at hw
  refine MetP.go snX5_starting [] 100 rfl rfl rfl rfl (fun _ => ?_)
  refine qX5_isService (by unfold I32; omega) (by omega) (fun q => ?_) (fun q => absurd q (by omega))
  refine ⟨by omega, fun _ => ?_, fun q => absurd q (by omega)⟩
  refine ⟨by omega, ?_⟩
  refine ⟨by omega, fun x1 e1 => ?_⟩
  obtain rfl : x1 = g 6 := e1.trans e6
  refine ⟨by omega, ?_⟩
  refine ⟨by omega, fun x2 e2 => ?_⟩
  obtain rfl : x2 = g 6 := e2.trans e6
  refine ⟨by omega, ?_⟩
  refine qX5_in (by omega) (by omega) (by omega) (fun q => ?_) (fun q => ?_)
  · refine ⟨by omega, fun q' => absurd q' (by omega), fun _ => ?_⟩
    refine ⟨by omega, fun x3 e3 => ?_⟩
    obtain rfl : x3 = g 6 := e3.trans e6
    refine qX5_at ?_
    refine ⟨by omega, fun x4 e4 => hq x4 ?_⟩
    rw [if_pos (by omega)]
    refine e4.trans ((congrArg (ν 1) (show _ = 400 * 0 + 8 + 98 * s + (11 + (w - g 6)) by omega)).trans (RwM_v s4 s (11 + (w - g 6)) (by omega)))
  · refine ⟨by omega, fun _ => ?_, fun q' => absurd rfl q'⟩
    exact hq _ (by rw [if_neg (by omega)])
end T53

section T51
variable {N : Int} {μ ν : Mem} {g u : Int → Int} {v : Mem} {Q : PV → Mem → Prop} {s m x c R : Int}
theorem ag_load (hs : I32 s) (hm : I32 m) (hx : I32 x) (h : REL N μ ν) : MetP mX5_load [(105, 0), (0, s), (0, m), (0, x)] ν (fun b ν' => MetP mX4_load [(104, 0), (0, s), (0, m), (0, x)] μ (fun a μ' => a = b ∧ REL N μ' ν')) := by
  obtain ⟨hT, hn, hst⟩ := id h
  refine MetP.go snX5_load [] 100 rfl rfl rfl rfl (fun _ => ?_)
  rcases hst with ⟨s1, s2⟩ | ⟨s1, t, g, v, ht, s2, s3, s4, s5, s6, s7⟩
  · refine qX5_isMeasure (x := 0) hs hm (by omega) (fun q => absurd q (by omega)) (fun q => absurd q (by omega)) (fun q => ?_)
    refine ⟨by omega, fun q => absurd rfl q, fun q => ?_⟩
    refine MetP.go snX4_load [] 100 rfl rfl rfl rfl (fun _ => ?_)
    refine qX4_hasMeasure (x := 0) hs hm (Or.inl s1) (fun q => absurd q (by omega)) (fun q => absurd q (by omega)) (fun q => ?_)
    refine ⟨by omega, fun q => absurd rfl q, fun q => ?_⟩
    exact ⟨rfl, h⟩
  · obtain ⟨bG, b6, bV⟩ := id s5
    have b7 := bG.2.2.2.2.2.2.2
    have b60 := bG.2.2.2.2.2.2.1
    have e7 : ν 1 7 = g 7 := RwM_g s4 7 (by omega)
    have d7 : μ 3 2 = g 7 := s6.1.2.1
    have e9 : 0 ≤ s ∧ s < g 7 → ν 1 (8 + 98 * s + 9) = v s 9 := fun q => (congrArg (ν 1) (by omega)).trans (RwM_v s4 s 9 (by omega))
    have d9 : 0 ≤ s ∧ s < g 7 → μ (6 + 12 * s) 2 = v s 9 := fun q => (congrArg (fun z => μ z 2) (show (6 + 12 * s : Int) = 3 + 2 + 1 + 12 * s by omega)).trans (s6.2 s q.1 q.2).2.1.1
    refine qX5_isMeasure (x := v s 9) hs hm (by omega) (fun q => ?_) (fun q1 q2 => ?_) (fun q => ?_)
    · rw [e7] at q; exact ⟨e9 q, BV_9 (bV s q.1 q.2)⟩
    · rw [e7] at q1
      have b9 := BV_9 (bV s q1.1 q1.2)
      refine ⟨by omega, fun _ => ?_, fun q => absurd q (by omega)⟩
      have hx' := hx
      unfold I32 at hx'
      have X : ∀ b ν', ((-1 ≤ x ∧ x ≤ 9999) → ∀ z : PV, OkE mX4_load 27 [(104, 0), (0, s), (0, m), (0, x), z, z] [] μ (fun a μ' => a = b ∧ REL N μ' ν')) → (¬ (-1 ≤ x ∧ x ≤ 9999) → b = (0, -1000002) ∧ REL N μ ν') → MetP mX4_load [(104, 0), (0, s), (0, m), (0, x)] μ (fun a μ' => a = b ∧ REL N μ' ν') := by
        intro b ν' y1 y2
        refine MetP.go snX4_load [27] 100 rfl rfl rfl rfl (fun _ => ?_)
        refine qX4_hasMeasure (x := v s 9) hs hm (Or.inr ⟨s1, by omega⟩) (fun _ q => ?_) (fun _ q3 q4 => ?_) (fun q => absurd ⟨s1, by omega, q2⟩ q)
        · rw [d7] at q; exact ⟨d9 q, b9⟩
        · refine ⟨by omega, fun _ => ?_, fun q => absurd q (by omega)⟩
          refine ⟨by omega, by omega, fun q5 => ?_, fun q5 => ?_⟩
          · obtain ⟨z1, z2⟩ := y2 (by omega)
            exact ⟨z1.symm, z2⟩
          · refine ⟨by omega, by omega, fun q6 => ?_, fun q6 => ?_⟩
            · exact y1 (by omega) _
            · obtain ⟨z1, z2⟩ := y2 (by omega)
              exact ⟨z1.symm, z2⟩
      refine ⟨by omega, ?_⟩
      refine qX5_in (by omega) (by omega) (by omega) (fun q => ?_) (fun q => ?_)
      · refine ⟨by omega, fun _ => ?_, fun q => absurd q (by omega)⟩
        refine qX5_notes ht s3 (fun ν1 c1 c2 c3 c4 c5 => ?_)
        have r1 : RwM ν1 0 g v := RwM_eq s4 (fun i p q => c4 i (by omega))
        refine qX5_atMeasure ?_
        refine ⟨by omega, fun x1 e1 => ?_⟩
        obtain rfl : x1 = v s (35 + 21 * m + 2) := e1.trans (RwM_v r1 s (35 + 21 * m + 2) (by omega))
        refine qX5_atMeasure ?_
        refine ⟨by omega, fun ν2 k2 => ?_⟩
        have k2' : ν2 = wk ν1 0 g (upm v s (35 + 21 * m + 2) x) ν1 := k2.trans ((congrArg (fun z => upm z 1 (400 * 0 + 8 + 98 * s + (35 + 21 * m + 2)) x) (RwM_wk r1)).trans (wr_v s (35 + 21 * m + 2) rfl rfl (by omega)))
        refine X _ _ (fun _ z => ?_) (fun q' => absurd q q')
        refine OkE.go snX4_load [] 100 ?_
        refine qX4_keepForUndo hn ht rfl s2 (by omega) (by omega) bV s6 (fun μ1 l1 l2 l3 l4 => ?_)
        have m1 : RelH μ1 3 g v := s6.frame b7.2 bV (fun a b p q => l4 a b (by omega) (by omega))
        have KK := kept_note hn ht s7 s4 s5 l1 l4 c2 c3
        refine ⟨by omega, ?_⟩
        refine ⟨by omega, ?_⟩
        intro x2 e2
        have em : (37 : Int) + 21 * m = 35 + 21 * m + 2 := by omega
        have hv := ((m1.2 s q1.1 q1.2).2.2.2.2.2.2.2.2.2 m q2.1 q2.2).2.2.1
        rw [em] at hv
        obtain rfl : x2 = v s (35 + 21 * m + 2) := e2.trans hv
        intro μ2 k3
        have k3' : μ2 = upm μ1 (3 + 2 + 1 + 12 * s + 2 + 1 + 2 * m) 2 x := k3
        have n2 : ∀ a b, ¬ (a = 3 + 2 + 1 + 12 * s + 2 + 1 + 2 * m) → μ2 a b = μ1 a b := fun a b hn => by rw [k3']; exact upm_ne (by omega)
        refine ⟨rfl, ?_⟩
        have uo : ∀ s', s' ≠ s → upm v s (35 + 21 * m + 2) x s' = v s' := fun s' hs' => by funext w; exact upm_ne (by omega)
        have ua : upm v s (35 + 21 * m + 2) x s (37 + 21 * m) = x := by rw [em]; exact upm_at _ _ _ _
        have un : ∀ j, j ≠ 37 + 21 * m → upm v s (35 + 21 * m + 2) x s j = v s j := fun j hj => upm_ne (by omega)
        have w4 : μ2 0 4 = (if μ 0 4 = 9 then 0 else μ 0 4 + 1) := (n2 0 4 (by omega)).trans l2
        rw [k2']
        refine ⟨hT.keep (fun a b p => ?_) ?_ ?_ (fun i => ?_), ?_, Or.inr ⟨?_, min (t + 1) 10, g, upm v s (35 + 21 * m + 2) x, by omega, ?_, ?_, RwM_of, ⟨bG, b6, fun s' p q => ?_⟩, ⟨⟨fun k p q => ?_, ?_, ?_, ?_⟩, fun s' p q => ?_⟩, ?_⟩⟩
        · rw [n2 a b (by omega)]; exact l4 a b (by omega) (by omega)
        · rw [rd_o (by omega)]; exact c5 0 11 (by omega) (by omega)
        · rw [rd_o (by omega)]; exact c5 0 12 (by omega) (by omega)
        · rw [rd_o (by omega)]; exact c5 10 i (by omega) (by omega)
        · rw [w4]; split <;> omega
        · rw [n2 0 6 (by omega), l4 0 6 (by omega) (by omega)]; exact s1
        · rw [n2 0 5 (by omega)]; exact l3
        · rw [rd_o (by omega)]; exact c1
        · by_cases hss : s' = s
          · subst hss; exact BV_val (bV s' p q) q2 (by omega) ua un
          · rw [uo s' hss]; exact bV s' p q
        · rw [n2 _ _ (by omega)]; exact m1.1.1 k p q
        · rw [n2 _ _ (by omega)]; exact m1.1.2.1
        · rw [n2 _ _ (by omega)]; exact m1.1.2.2.1
        · rw [n2 _ _ (by omega)]; exact m1.1.2.2.2
        · by_cases hss : s' = s
          · subst hss; rw [k3']; exact RelS_val (m1.2 s' p q) b9.2 q2 ua un
          · rw [uo s' hss]; exact (m1.2 s' p q).frame (BV_9 (bV s' p q)).2 (fun a b p3 p4 => n2 a b (by omega))
        · rw [w4]
          intro k p q
          obtain ⟨g', v', d1, d2, d3⟩ := KK k p q
          refine ⟨g', v', fun i p2 q2 => ?_, d2, ?_⟩
          · rw [rd_r k i rfl rfl (by omega)]; exact d1 i p2 q2
          · exact d3.frame d2.1.2.2.2.2.2.2.2.2 d2.2.2 (fun a b q1 q2 => n2 a b (by omega))
      · refine ⟨by omega, fun q => absurd rfl q, fun _ => ?_⟩
        exact X _ _ (fun q' => absurd q' q) (fun _ => ⟨rfl, h⟩)
    · refine ⟨by omega, fun q => absurd rfl q, fun _ => ?_⟩
      refine MetP.go snX4_load [] 100 rfl rfl rfl rfl (fun _ => ?_)
      refine qX4_hasMeasure (x := v s 9) hs hm (Or.inr ⟨s1, by omega⟩) (fun _ q => ?_) (fun _ q3 q4 => absurd ⟨by omega, q4⟩ q) (fun q => ?_)
      · rw [d7] at q; exact ⟨d9 q, BV_9 (bV s q.1 q.2)⟩
      · refine ⟨by omega, fun q => absurd rfl q, fun q => ?_⟩
        exact ⟨rfl, h⟩
end T51

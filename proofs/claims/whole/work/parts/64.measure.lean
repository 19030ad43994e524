def msA (g u : Int → Int) (m w : Int) : Int := if 0 ≤ w ∧ w ≤ 2 then u (35 + 21 * m + w) else if w = 3 then wantV g (wakeV u) m (u (37 + 21 * m)) else if w = 4 then min (g 6) 18 else if 10 ≤ w ∧ w ≤ 9 + min (g 6) 18 then u (38 + 21 * m + (w - 10)) else -1000002
section T64
variable {N : Int} {μ ν : Mem} {g u : Int → Int} {v W : Mem} {Q : PV → Mem → Prop} {w x s c R t n m : Int}
theorem wakeTo_s (hs : 0 ≤ s ∧ s < n) : wakeTo v n s = wakeV (v s) := by
  funext w
  unfold wakeTo
  rw [if_pos hs]
theorem BV_m (hB : BV u) (hm : 0 ≤ m ∧ m < u 9) : (1 ≤ u (35 + 21 * m) ∧ u (35 + 21 * m) ≤ 4) ∧ (1 ≤ u (36 + 21 * m) ∧ u (36 + 21 * m) ≤ 99) ∧ (-1 ≤ u (37 + 21 * m) ∧ u (37 + 21 * m) ≤ 9999) ∧ ∀ k, 0 ≤ k → k < 18 → -1 ≤ u (38 + 21 * m + k) ∧ u (38 + 21 * m + k) ≤ 9999 := by
  obtain ⟨-, -, -, -, -, -, -, -, -, -, -, -, -, -, -, -, -, hM⟩ := hB
  exact hM m hm.1 hm.2
theorem qX5_measure (hmm : (0 ≤ s ∧ s < g 7) ∧ 0 ≤ m ∧ m < v s 9) (hw : I32 w) (bG : BG g) (hB : BV (v s)) (s4 : RwM ν 0 g v) (hq : ∀ y ν', y = msA g (v s) m w → (ν' = ν ∨ ν' = wk ν 11 g (wakeTo v (g 7)) ν) → Q (0, y) ν') : MetP mX5_measure [(105, 0), (0, s), (0, m), (0, w)] ν Q := by
  have b7 := bG.2.2.2.2.2.2.2
  have b6 := bG.2.2.2.2.2.2.1
  have b9 := BV_9 hB
  obtain ⟨kb, tb, vb, pb⟩ := BV_m hB hmm.2
  have e7 : ν 1 7 = g 7 := RwM_g s4 7 (by omega)
  have P : ∀ Q0, Q0 (0, min (g 6) 18) ν → MetP mX5_pastOf [(105, 0), (0, 0)] ν Q0 := fun Q0 h0 => by
    rw [RwM_wk s4]
    refine qX5_pastOf (r := 0) (by omega) b6 ?_
    rw [← RwM_wk s4]
    exact h0
  unfold I32 at hw
  unfold msA at hq
  refine MetP.go snX5_measure [] 100 rfl rfl rfl rfl (fun _ => ?_)
  have e9 : ν 1 (8 + 98 * s + 9) = v s 9 := (congrArg (ν 1) (by omega)).trans (RwM_v s4 s 9 (by omega))
  refine qX5_isMeasure (x := v s 9) (by unfold I32; omega) (by unfold I32; omega) (by omega) (fun q => ⟨e9, b9⟩) (fun _ _ => ?_) (fun q => absurd ⟨by omega, hmm.2⟩ q)
  refine ⟨by omega, fun _ => ?_, fun q => absurd q (by omega)⟩
  refine ⟨by omega, ?_⟩
  refine qX5_in (by omega) (by omega) (by omega) (fun q => ?_) (fun q => ?_)
  · refine ⟨by omega, fun q => absurd q (by omega), fun _ => ?_⟩
    refine qX5_atMeasure ?_
    refine ⟨by omega, fun x8 e8 => ?_⟩
    refine hq x8 ν ?_ (Or.inl rfl)
    rw [if_pos (by omega)]
    exact e8.trans (RwM_v s4 s (35 + 21 * m + w) (by omega))
  refine ⟨by omega, fun _ => ?_, fun q => absurd rfl q⟩
  refine ⟨by omega, by omega, fun q3 => ?_, fun q3 => ?_⟩
  · refine ⟨by omega, by omega, fun q4 => ?_, fun q4 => ?_⟩
    · refine ⟨by omega, ?_⟩
      refine P _ ?_
      refine ⟨by omega, ?_⟩
      refine qX5_in (by omega) (by omega) (by omega) (fun q => ?_) (fun q => ?_)
      · refine ⟨by omega, fun q => absurd q (by omega), fun _ => ?_⟩
        refine qX5_atMeasure ?_
        refine ⟨by omega, fun x8 e8 => ?_⟩
        refine hq x8 ν ?_ (Or.inl rfl)
        rw [if_neg (by omega), if_neg (by omega), if_neg (by omega), if_pos (by omega)]
        rw [show (38 : Int) + 21 * m + (w - 10) = 35 + 21 * m + (3 + w - 10) by omega]
        exact e8.trans (RwM_v s4 s (35 + 21 * m + (3 + w - 10)) (by omega))
      · refine ⟨by omega, fun _ => ?_, fun q => absurd rfl q⟩
        refine hq _ ν ?_ (Or.inl rfl)
        rw [if_neg (by omega), if_neg (by omega), if_neg (by omega), if_neg (by omega)]
    · refine P _ ?_
      refine hq _ ν ?_ (Or.inl rfl)
      rw [if_neg (by omega), if_neg (by omega), if_pos (by omega)]
  · refine qX5_tries s4 b7 ?_
    have ew := wakeTo_s (v := v) (n := g 7) hmm.1
    have hBw := BV_wake hB
    have h9 : wakeV (v s) 9 = v s 9 := wake_ne (by omega) (by omega)
    refine qX5_atMeasure ?_
    refine ⟨by omega, fun x7 e7 => ?_⟩
    have e37 : (35 : Int) + 21 * m + 2 = 37 + 21 * m := by omega
    obtain rfl : x7 = v s (37 + 21 * m) := by
      refine e7.trans ((rd_r 0 (8 + 98 * s + (35 + 21 * m + 2)) rfl (by omega) (by omega)).trans ?_)
      refine (congrArg (ν 1) (show (_ : Int) = 400 * 0 + 8 + 98 * s + (35 + 21 * m + 2) by omega)).trans ((RwM_v s4 s (35 + 21 * m + 2) (by omega)).trans ?_)
      rw [e37]
    refine qX5_wantOf (r := 11) (by omega) (by omega) bG (by rw [ew]; exact hBw) (by rw [ew, h9]; exact hmm.2) vb ?_
    refine hq _ _ ?_ (Or.inr rfl)
    rw [ew]
    rw [if_neg (by omega), if_pos (by omega)]
theorem qX4_measure (hmm : (0 ≤ s ∧ s < g 7) ∧ 0 ≤ m ∧ m < v s 9) (hw : I32 w) (bG : BG g) (hB : BV (v s)) (s1 : μ 0 6 = 1) (s6 : RelH μ 3 g v) (hq : ∀ y, y = msA g (v s) m w → Q (0, y) μ) : MetP mX4_measure [(104, 0), (0, s), (0, m), (0, w)] μ Q := by
  have b7 := bG.2.2.2.2.2.2.2
  have b6 := bG.2.2.2.2.2.2.1
  have b9 := BV_9 hB
  have d7 : μ 3 2 = g 7 := s6.1.2.1
  obtain ⟨⟨a1, a2, a3, a4⟩, a5⟩ := id s6
  have rs := a5 s hmm.1.1 hmm.1.2
  obtain ⟨r1, r2, r3, r4⟩ := rs.2.2.2.2.2.2.2.2.2 m hmm.2.1 hmm.2.2
  unfold I32 at hw
  unfold msA at hq
  have J : ¬ (10 ≤ w ∧ w ≤ 9 + min (g 6) 18) → OkE mX4_measure 76 [(104, 0), (0, s), (0, m), (0, w), (101, 3 + 2 + 1 + 12 * s + 2 + 1 + 2 * m), (0, min (g 6) 18)] [] μ Q := by
    intro hc
    refine OkE.go snX4_measure [] 100 ?_
    refine ⟨by omega, ?_⟩
    refine And.intro (fun q => ?_) (fun n0 => And.intro (fun q => ?_) (fun n1 => And.intro (fun q => ?_) (fun n2 => And.intro (fun q => ?_) (fun n3 => And.intro (fun q => ?_) (fun n4 => ?_)))))
    · intro x1 e1
      refine hq x1 ?_
      rw [if_pos (by omega), q, Int.add_zero]
      exact e1.trans r1
    · intro x1 e1
      refine hq x1 ?_
      rw [if_pos (by omega), q, show (35 : Int) + 21 * m + 1 = 36 + 21 * m by omega]
      exact e1.trans r2
    · intro x1 e1
      refine hq x1 ?_
      rw [if_pos (by omega), q, show (35 : Int) + 21 * m + 2 = 37 + 21 * m by omega]
      exact e1.trans r3
    · refine ⟨by omega, ?_⟩
      refine qX0_wantOf s6.1 bG rs hB hmm.2 ?_
      refine hq _ ?_
      rw [if_neg (by omega), if_pos (by omega)]
    · refine hq _ ?_
      rw [if_neg (by omega), if_neg (by omega), if_pos (by omega)]
    · refine hq _ ?_
      rw [if_neg (by omega), if_neg (by omega), if_neg (by omega), if_neg (by omega)]
  refine MetP.go snX4_measure [76] 100 rfl rfl rfl rfl (fun _ => ?_)
  have d9 : μ (6 + 12 * s) 2 = v s 9 := (congrArg (fun z => μ z 2) (show (6 + 12 * s : Int) = 3 + 2 + 1 + 12 * s by omega)).trans (s6.2 s hmm.1.1 hmm.1.2).2.1.1
  refine qX4_hasMeasure (x := v s 9) (by unfold I32; omega) (by unfold I32; omega) (Or.inr ⟨s1, by omega⟩) (fun _ q => ⟨d9, b9⟩) (fun _ _ _ => ?_) (fun q => absurd ⟨s1, by omega, hmm.2⟩ q)
  refine ⟨by omega, fun _ => ?_, fun q => absurd q (by omega)⟩
  refine ⟨by omega, ?_⟩
  refine ⟨by omega, ?_⟩
  refine qX0_pastRounds (n := g 6) (by omega) a4 ?_
  refine ⟨by omega, by omega, fun q2 => ?_, fun q2 => ?_⟩
  · exact J (by omega)
  refine ⟨by omega, by omega, fun q11 => ?_, fun q11 => ?_⟩
  · exact J (by omega)
  intro x20 e20
  obtain rfl : x20 = g 6 := e20.trans a4
  refine ⟨by omega, by omega, ?_⟩
  refine ⟨by omega, fun x21 e21 => ?_⟩
  refine hq _ ?_
  rw [if_neg (by omega), if_neg (by omega), if_neg (by omega), if_pos (by omega)]
  exact e21.trans (r4 (w - 10) (by omega) (by omega) (by omega))
theorem ag_measure (hs : I32 s) (hm : I32 m) (hw : I32 w) (h : REL N μ ν) : MetP mX5_measure [(105, 0), (0, s), (0, m), (0, w)] ν (fun b ν' => MetP mX4_measure [(104, 0), (0, s), (0, m), (0, w)] μ (fun a μ' => a = b ∧ REL N μ' ν')) := by
  obtain ⟨hT, hn, hst⟩ := id h
  rcases hst with ⟨s1, s2⟩ | ⟨s1, t, g, v, ht, s2, s3, s4, s5, s6, s7⟩
  · refine MetP.go snX5_measure [] 100 rfl rfl rfl rfl (fun _ => ?_)
    refine qX5_isMeasure (x := 0) hs hm (by omega) (fun q => absurd q (by omega)) (fun q => absurd q (by omega)) (fun q => ?_)
    refine ⟨by omega, fun q => absurd rfl q, fun q => ?_⟩
    refine MetP.go snX4_measure [] 100 rfl rfl rfl rfl (fun _ => ?_)
    refine qX4_hasMeasure (x := 0) hs hm (Or.inl s1) (fun q => absurd q (by omega)) (fun q => absurd q (by omega)) (fun q => ?_)
    refine ⟨by omega, fun q => absurd rfl q, fun q => ?_⟩
    exact ⟨rfl, h⟩
  · obtain ⟨bG, b6, bV⟩ := id s5
    have b7 := bG.2.2.2.2.2.2.2
    have e7 : ν 1 7 = g 7 := RwM_g s4 7 (by omega)
    have d7 : μ 3 2 = g 7 := s6.1.2.1
    by_cases hmm : (0 ≤ s ∧ s < g 7) ∧ 0 ≤ m ∧ m < v s 9
    · refine qX5_measure hmm hw bG (bV s hmm.1.1 hmm.1.2) s4 (fun y ν' hy hν => ?_)
      refine qX4_measure hmm hw bG (bV s hmm.1.1 hmm.1.2) s1 s6 (fun z hz => ?_)
      obtain rfl : z = y := hz.trans hy.symm
      rcases hν with rfl | rfl
      · exact ⟨rfl, h⟩
      · exact ⟨rfl, h.wk11 (fun _ _ _ => rfl)⟩
    · have e9 : 0 ≤ s ∧ s < g 7 → ν 1 (8 + 98 * s + 9) = v s 9 := fun q => (congrArg (ν 1) (by omega)).trans (RwM_v s4 s 9 (by omega))
      have d9 : 0 ≤ s ∧ s < g 7 → μ (6 + 12 * s) 2 = v s 9 := fun q => (congrArg (fun z => μ z 2) (show (6 + 12 * s : Int) = 3 + 2 + 1 + 12 * s by omega)).trans (s6.2 s q.1 q.2).2.1.1
      refine MetP.go snX5_measure [] 100 rfl rfl rfl rfl (fun _ => ?_)
      refine qX5_isMeasure (x := v s 9) hs hm (by omega) (fun q => ?_) (fun q1 q2 => absurd ⟨by omega, q2⟩ hmm) (fun q => ?_)
      · rw [e7] at q; exact ⟨e9 q, BV_9 (bV s q.1 q.2)⟩
      refine ⟨by omega, fun q => absurd rfl q, fun q => ?_⟩
      refine MetP.go snX4_measure [] 100 rfl rfl rfl rfl (fun _ => ?_)
      refine qX4_hasMeasure (x := v s 9) hs hm (Or.inr ⟨s1, by omega⟩) (fun _ q => ?_) (fun _ q3 q4 => absurd ⟨by omega, q4⟩ hmm) (fun q => ?_)
      · rw [d7] at q; exact ⟨d9 q, BV_9 (bV s q.1 q.2)⟩
      refine ⟨by omega, fun q => absurd rfl q, fun q => ?_⟩
      exact ⟨rfl, h⟩
theorem qX5_forecast (hmm : (0 ≤ s ∧ s < g 7) ∧ 0 ≤ m ∧ m < v s 9) (hw : I32 w) (bG : BG g) (hB : BV (v s)) (s4 : RwM ν 0 g v) (hq : ∀ y, y = (if 0 ≤ w ∧ w ≤ 12 then foreV g (v s) m w else -1000002) → Q (0, y) ν) : MetP mX5_forecast [(105, 0), (0, s), (0, m), (0, w)] ν Q := by
  have b7 := bG.2.2.2.2.2.2.2
  have b9 := BV_9 hB
  obtain ⟨kb, tb, vb, pb⟩ := BV_m hB hmm.2
  have e7 : ν 1 7 = g 7 := RwM_g s4 7 (by omega)
  unfold I32 at hw
  refine MetP.go snX5_forecast [] 100 rfl rfl rfl rfl (fun _ => ?_)
  have e9 : ν 1 (8 + 98 * s + 9) = v s 9 := (congrArg (ν 1) (by omega)).trans (RwM_v s4 s 9 (by omega))
  refine qX5_isMeasure (x := v s 9) (by unfold I32; omega) (by unfold I32; omega) (by omega) (fun q => ⟨e9, b9⟩) (fun _ _ => ?_) (fun q => absurd ⟨by omega, hmm.2⟩ q)
  refine ⟨by omega, fun _ => ?_, fun q => absurd q (by omega)⟩
  refine ⟨by omega, ?_⟩
  refine qX5_in (by omega) (by omega) (by omega) (fun q => ?_) (fun q => ?_)
  · refine ⟨by omega, fun q => absurd q (by omega), fun _ => ?_⟩
    have T : ∀ Q0, Q0 (0, foreV g (v s) m w) ν → MetP mX5_forecastOf [(105, 0), (0, 0), (0, s), (0, m), (0, w)] ν Q0 := fun Q0 h0 => by
      rw [RwM_wk s4]
      refine qX5_forecastOf (r := 0) (by omega) (by omega) (by omega) bG q pb ?_
      rw [← RwM_wk s4]
      exact h0
    refine T _ ?_
    refine hq _ ?_
    rw [if_pos q]
  · refine ⟨by omega, fun _ => ?_, fun q => absurd rfl q⟩
    refine hq _ ?_
    rw [if_neg q]
theorem qX4_forecast (hmm : (0 ≤ s ∧ s < g 7) ∧ 0 ≤ m ∧ m < v s 9) (hw : I32 w) (bG : BG g) (hB : BV (v s)) (s1 : μ 0 6 = 1) (s6 : RelH μ 3 g v) (hq : ∀ y, y = (if 0 ≤ w ∧ w ≤ 12 then foreV g (v s) m w else -1000002) → Q (0, y) μ) : MetP mX4_forecast [(104, 0), (0, s), (0, m), (0, w)] μ Q := by
  have b7 := bG.2.2.2.2.2.2.2
  have b9 := BV_9 hB
  obtain ⟨kb, tb, vb, pb⟩ := BV_m hB hmm.2
  have d7 : μ 3 2 = g 7 := s6.1.2.1
  obtain ⟨⟨a1, a2, a3, a4⟩, a5⟩ := id s6
  have rs := a5 s hmm.1.1 hmm.1.2
  obtain ⟨r1, r2, r3, r4⟩ := rs.2.2.2.2.2.2.2.2.2 m hmm.2.1 hmm.2.2
  unfold I32 at hw
  refine MetP.go snX4_forecast [] 100 rfl rfl rfl rfl (fun _ => ?_)
  have d9 : μ (6 + 12 * s) 2 = v s 9 := (congrArg (fun z => μ z 2) (show (6 + 12 * s : Int) = 3 + 2 + 1 + 12 * s by omega)).trans (s6.2 s hmm.1.1 hmm.1.2).2.1.1
  refine qX4_hasMeasure (x := v s 9) (by unfold I32; omega) (by unfold I32; omega) (Or.inr ⟨s1, by omega⟩) (fun _ q => ⟨d9, b9⟩) (fun _ _ _ => ?_) (fun q => absurd ⟨s1, by omega, hmm.2⟩ q)
  refine ⟨by omega, fun _ => ?_, fun q => absurd q (by omega)⟩
  refine ⟨by omega, fun q2 => ?_, fun q2 => ?_⟩
  · refine hq _ ?_
    rw [if_neg (by omega)]
  refine ⟨by omega, by omega, fun q3 => ?_, fun q3 => ?_⟩
  · refine ⟨by omega, ?_⟩
    refine ⟨by omega, ?_⟩
    intro x4 e4
    obtain rfl : x4 = g 6 := e4.trans a4
    refine ⟨by omega, fun x5 e5 => ?_⟩
    obtain rfl : x5 = g 4 := e5.trans (a1 4 (by omega) (by omega))
    refine qX1_foresee (u := v s) (m := m) bG (by omega) pb r4 ?_
    refine hq _ ?_
    rw [if_pos (by omega)]
  · refine hq _ ?_
    rw [if_neg (by omega)]
theorem ag_forecast (hs : I32 s) (hm : I32 m) (hw : I32 w) (h : REL N μ ν) : MetP mX5_forecast [(105, 0), (0, s), (0, m), (0, w)] ν (fun b ν' => MetP mX4_forecast [(104, 0), (0, s), (0, m), (0, w)] μ (fun a μ' => a = b ∧ REL N μ' ν')) := by
  obtain ⟨hT, hn, hst⟩ := id h
  rcases hst with ⟨s1, s2⟩ | ⟨s1, t, g, v, ht, s2, s3, s4, s5, s6, s7⟩
  · refine MetP.go snX5_forecast [] 100 rfl rfl rfl rfl (fun _ => ?_)
    refine qX5_isMeasure (x := 0) hs hm (by omega) (fun q => absurd q (by omega)) (fun q => absurd q (by omega)) (fun q => ?_)
    refine ⟨by omega, fun q => absurd rfl q, fun q => ?_⟩
    refine MetP.go snX4_forecast [] 100 rfl rfl rfl rfl (fun _ => ?_)
    refine qX4_hasMeasure (x := 0) hs hm (Or.inl s1) (fun q => absurd q (by omega)) (fun q => absurd q (by omega)) (fun q => ?_)
    refine ⟨by omega, fun q => absurd rfl q, fun q => ?_⟩
    exact ⟨rfl, h⟩
  · obtain ⟨bG, b6, bV⟩ := id s5
    have b7 := bG.2.2.2.2.2.2.2
    have e7 : ν 1 7 = g 7 := RwM_g s4 7 (by omega)
    have d7 : μ 3 2 = g 7 := s6.1.2.1
    by_cases hmm : (0 ≤ s ∧ s < g 7) ∧ 0 ≤ m ∧ m < v s 9
    · refine qX5_forecast hmm hw bG (bV s hmm.1.1 hmm.1.2) s4 (fun y hy => ?_)
      refine qX4_forecast hmm hw bG (bV s hmm.1.1 hmm.1.2) s1 s6 (fun z hz => ?_)
      obtain rfl : z = y := hz.trans hy.symm
      exact ⟨rfl, h⟩
    · have e9 : 0 ≤ s ∧ s < g 7 → ν 1 (8 + 98 * s + 9) = v s 9 := fun q => (congrArg (ν 1) (by omega)).trans (RwM_v s4 s 9 (by omega))
      have d9 : 0 ≤ s ∧ s < g 7 → μ (6 + 12 * s) 2 = v s 9 := fun q => (congrArg (fun z => μ z 2) (show (6 + 12 * s : Int) = 3 + 2 + 1 + 12 * s by omega)).trans (s6.2 s q.1 q.2).2.1.1
      refine MetP.go snX5_forecast [] 100 rfl rfl rfl rfl (fun _ => ?_)
      refine qX5_isMeasure (x := v s 9) hs hm (by omega) (fun q => ?_) (fun q1 q2 => absurd ⟨by omega, q2⟩ hmm) (fun q => ?_)
      · rw [e7] at q; exact ⟨e9 q, BV_9 (bV s q.1 q.2)⟩
      refine ⟨by omega, fun q => absurd rfl q, fun q => ?_⟩
      refine MetP.go snX4_forecast [] 100 rfl rfl rfl rfl (fun _ => ?_)
      refine qX4_hasMeasure (x := v s 9) hs hm (Or.inr ⟨s1, by omega⟩) (fun _ q => ?_) (fun _ q3 q4 => absurd ⟨by omega, q4⟩ hmm) (fun q => ?_)
      · rw [d7] at q; exact ⟨d9 q, BV_9 (bV s q.1 q.2)⟩
      refine ⟨by omega, fun q => absurd rfl q, fun q => ?_⟩
      exact ⟨rfl, h⟩
end T64

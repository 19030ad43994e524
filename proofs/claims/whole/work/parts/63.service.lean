def nxN (R : Int) (u : Int → Int) : Nat → Int
  | 0 => -1
  | n + 1 => if 0 < u (17 - (n : Int)) then R + (6 - (n : Int)) else nxN R u n
def svA (R : Int) (u : Int → Int) (w : Int) : Int := if w = 9 then u 9 else if w = 10 then cntV u else if w = 11 then u 10 else if w = 12 then nxN R u 7 else if w = 13 then u 32 else if w = 14 then u 33 else if w = 15 then u 34 else if 0 ≤ w ∧ w ≤ 8 then u w else -1000002
section T63
variable {N : Int} {μ ν : Mem} {g u : Int → Int} {v W : Mem} {Q : PV → Mem → Prop} {w x s c R t n : Int}
theorem BV_st17 (hB : BV u) : ∀ k, 11 ≤ k → k ≤ 17 → 0 ≤ u k ∧ u k ≤ 20 := by
  obtain ⟨-, -, -, -, -, -, -, -, -, -, -, hb, hc, -⟩ := hB
  unfold cntV at hc
  intro k p q
  rcases (show k = 11 ∨ k = 12 ∨ k = 13 ∨ k = 14 ∨ k = 15 ∨ k = 16 ∨ k = 17 by omega) with rfl | rfl | rfl | rfl | rfl | rfl | rfl <;> omega
theorem qX5_nextStarting (hss : 0 ≤ s ∧ s < g 7) (bG : BG g) (hB : BV (v s)) (s4 : RwM ν 0 g v) (hq : Q (0, nxN (g 6) (v s) 7) ν) : MetP mX5_nextStarting [(105, 0), (0, s)] ν Q := by
  have b7 := bG.2.2.2.2.2.2.2
  have e6 : ν 1 6 = g 6 := RwM_g s4 6 (by omega)
  have L : ∀ (e j : Nat) (k : Int), e + j = 7 → k = 6 - (j : Int) → OkE mX5_nextStarting 5 [(105, 0), (0, s), (0, nxN (g 6) (v s) j), (0, k)] [] ν Q := by
    intro e
    induction e with
    | zero =>
      intro j k hj hk
      refine OkE.go snX5_nextStarting [5] 100 ?_
      refine ⟨by omega, fun q1 => ?_, fun q1 => absurd q1 (by omega)⟩
      rw [show j = 7 by omega]
      exact hq
    | succ e ih =>
      intro j k hj hk
      have i1 := ih (j + 1) (k + -1) (by omega) (by omega)
      have eu : v s (17 - (j : Int)) = v s (11 + k) := by congr 1; omega
      have en : nxN (g 6) (v s) (j + 1) = if 0 < v s (11 + k) then g 6 + k else nxN (g 6) (v s) j := by
        show (if 0 < v s (17 - (j : Int)) then _ else _) = _
        rw [eu, show (6 : Int) - (j : Int) = k by omega]
      rw [en] at i1
      have bd := BV_st17 hB (11 + k) (by omega) (by omega)
      refine OkE.go snX5_nextStarting [5] 100 ?_
      refine ⟨by omega, fun q1 => absurd q1 (by omega), fun q1 => ?_⟩
      refine qX5_at ?_
      refine ⟨by omega, fun x2 e2 => ?_⟩
      obtain rfl : x2 = v s (11 + k) := e2.trans (RwM_v s4 s (11 + k) (by omega))
      refine ⟨by omega, fun q3 => ?_, fun q3 => ?_⟩
      · rw [if_neg (by omega)] at i1
        exact i1
      · refine ⟨by omega, fun x4 e4 => ?_⟩
        obtain rfl : x4 = g 6 := e4.trans e6
        rw [if_pos (by omega)] at i1
        exact i1
  refine MetP.go snX5_nextStarting [5] 100 rfl rfl rfl rfl (fun _ => ?_)
  exact L 7 0 6 (by omega) (by omega)
theorem qX2_nextReadyRound (hR : 0 ≤ R ∧ R ≤ 100000) (hB : BV u) (hS : RelS μ c R u) (hq : Q (0, nxN R u 7) μ) : MetP mX2_nextReadyRound [(102, c), (0, R)] μ Q := by
  have h3 := hS.2.2.1
  have L : ∀ (d : Nat) (i : Int), i = 7 - (d : Int) → d ≤ 7 → Q (0, nxN R u d) μ → OkE mX2_nextReadyRound 2 [(102, c), (0, R), (0, i)] [] μ Q := by
    intro d
    induction d with
    | zero =>
      intro i hi hd h
      refine OkE.go snX2_nextReadyRound [2] 100 ?_
      refine ⟨by omega, by omega, fun q1 => ?_, fun q1 => absurd q1 (by omega)⟩
      exact h
    | succ d ih =>
      intro i hi hd h
      have i1 := ih (i + 1) (by omega) (by omega)
      have eu : u (17 - (d : Int)) = u (11 + i) := by congr 1; omega
      have en : nxN R u (d + 1) = if 0 < u (11 + i) then R + i else nxN R u d := by
        show (if 0 < u (17 - (d : Int)) then _ else _) = _
        rw [eu, show (6 : Int) - (d : Int) = i by omega]
      rw [en] at h
      have bd := BV_st17 hB (11 + i) (by omega) (by omega)
      refine OkE.go snX2_nextReadyRound [2] 100 ?_
      refine ⟨by omega, by omega, fun q1 => absurd q1 (by omega), fun q1 => ?_⟩
      refine ⟨by omega, by omega, ?_⟩
      refine ⟨by omega, fun x2 e2 => ?_⟩
      obtain rfl : x2 = u (11 + i) := e2.trans (h3 i (by omega) (by omega))
      refine ⟨by omega, fun q3 => ?_, fun q3 => ?_⟩
      · rw [if_neg (by omega)] at h
        exact i1 h
      · rw [if_pos (by omega)] at h
        exact h
  refine MetP.go snX2_nextReadyRound [2] 100 rfl rfl rfl rfl (fun _ => ?_)
  exact L 7 0 (by omega) (by omega) hq
theorem qX5_service (hss : 0 ≤ s ∧ s < g 7) (hw : I32 w) (bG : BG g) (hB : BV (v s)) (s4 : RwM ν 0 g v) (hq : ∀ y, y = svA (g 6) (v s) w → Q (0, y) ν) : MetP mX5_service [(105, 0), (0, s), (0, w)] ν Q := by
  have b7 := bG.2.2.2.2.2.2.2
  have e7 : ν 1 7 = g 7 := RwM_g s4 7 (by omega)
  unfold I32 at hw
  unfold svA at hq
  refine MetP.go snX5_service [] 100 rfl rfl rfl rfl (fun _ => ?_)
  refine qX5_isService (by unfold I32; omega) (by omega) (fun q => ?_) (fun q => absurd q (by omega))
  refine ⟨by omega, fun _ => ?_, fun q => absurd q (by omega)⟩
  refine ⟨by omega, ?_⟩
  refine And.intro (fun q => ?_) (fun n0 => And.intro (fun q => ?_) (fun n1 => And.intro (fun q => ?_) (fun n2 => And.intro (fun q => ?_) (fun n3 => And.intro (fun q => ?_) (fun n4 => And.intro (fun q => ?_) (fun n5 => And.intro (fun q => ?_) (fun n6 => ?_)))))))
  · refine qX5_at ?_
    refine ⟨by omega, fun x1 e1 => hq x1 ?_⟩
    rw [if_pos (by omega)]
    exact e1.trans (RwM_v s4 s 9 (by omega))
  · have T : ∀ Q0, Q0 (0, cntV (v s)) ν → MetP mX5_countOf [(105, 0), (0, 0), (0, s)] ν Q0 := fun Q0 h0 => by
      rw [RwM_wk s4]
      refine qX5_countOf (r := 0) (by omega) (by omega) ?_
      rw [← RwM_wk s4]
      exact h0
    refine T _ ?_
    refine hq _ ?_
    rw [if_neg (by omega), if_pos (by omega)]
  · refine qX5_at ?_
    refine ⟨by omega, fun x1 e1 => hq x1 ?_⟩
    rw [if_neg (by omega), if_neg (by omega), if_pos (by omega)]
    exact e1.trans (RwM_v s4 s 10 (by omega))
  · refine qX5_nextStarting hss bG hB s4 ?_
    refine hq _ ?_
    rw [if_neg (by omega), if_neg (by omega), if_neg (by omega), if_pos (by omega)]
  · refine qX5_at ?_
    refine ⟨by omega, fun x1 e1 => hq x1 ?_⟩
    rw [if_neg (by omega), if_neg (by omega), if_neg (by omega), if_neg (by omega), if_pos (by omega)]
    exact e1.trans (RwM_v s4 s 32 (by omega))
  · refine qX5_at ?_
    refine ⟨by omega, fun x1 e1 => hq x1 ?_⟩
    rw [if_neg (by omega), if_neg (by omega), if_neg (by omega), if_neg (by omega), if_neg (by omega), if_pos (by omega)]
    exact e1.trans (RwM_v s4 s 33 (by omega))
  · refine qX5_at ?_
    refine ⟨by omega, fun x1 e1 => hq x1 ?_⟩
    rw [if_neg (by omega), if_neg (by omega), if_neg (by omega), if_neg (by omega), if_neg (by omega), if_neg (by omega), if_pos (by omega)]
    exact e1.trans (RwM_v s4 s 34 (by omega))
  · refine ⟨by omega, ?_⟩
    refine qX5_in (by omega) (by omega) (by omega) (fun q => ?_) (fun q => ?_)
    · refine ⟨by omega, fun q' => absurd q' (by omega), fun _ => ?_⟩
      refine qX5_at ?_
      refine ⟨by omega, fun x1 e1 => hq x1 ?_⟩
      rw [if_neg (by omega), if_neg (by omega), if_neg (by omega), if_neg (by omega), if_neg (by omega), if_neg (by omega), if_neg (by omega), if_pos (by omega)]
      exact e1.trans (RwM_v s4 s w (by omega))
    · refine ⟨by omega, fun _ => ?_, fun q' => absurd rfl q'⟩
      refine hq _ ?_
      rw [if_neg (by omega), if_neg (by omega), if_neg (by omega), if_neg (by omega), if_neg (by omega), if_neg (by omega), if_neg (by omega), if_neg (by omega)]
theorem qX4_service (hss : 0 ≤ s ∧ s < g 7) (hw : I32 w) (bG : BG g) (hB : BV (v s)) (s1 : μ 0 6 = 1) (s6 : RelH μ 3 g v) (hq : ∀ y, y = svA (g 6) (v s) w → Q (0, y) μ) : MetP mX4_service [(104, 0), (0, s), (0, w)] μ Q := by
  have b7 := bG.2.2.2.2.2.2.2
  have b6 := bG.2.2.2.2.2.2.1
  obtain ⟨⟨a1, a2, a3, a4⟩, a5⟩ := s6
  have rs := a5 s hss.1 hss.2
  obtain ⟨r1, ⟨r2, r3, r4⟩, -, -, -, -, -, -, ⟨r5, r6, r7⟩, -⟩ := id rs
  unfold I32 at hw
  unfold svA at hq
  have J : ¬ (0 ≤ w ∧ w ≤ 8) → OkE mX4_service 38 [(104, 0), (0, s), (0, w), (102, 3 + 2 + 1 + 12 * s)] [] μ Q := by
    intro hc
    refine OkE.go snX4_service [] 100 ?_
    refine ⟨by omega, ?_⟩
    refine And.intro (fun q => ?_) (fun n0 => And.intro (fun q => ?_) (fun n1 => And.intro (fun q => ?_) (fun n2 => And.intro (fun q => ?_) (fun n3 => And.intro (fun q => ?_) (fun n4 => And.intro (fun q => ?_) (fun n5 => And.intro (fun q => ?_) (fun n6 => ?_)))))))
    · intro x1 e1
      refine hq x1 ?_
      rw [if_pos (by omega)]
      exact e1.trans r2
    · intro x1 e1
      refine hq x1 ?_
      rw [if_neg (by omega), if_pos (by omega)]
      exact e1.trans r3
    · intro x1 e1
      refine hq x1 ?_
      rw [if_neg (by omega), if_neg (by omega), if_pos (by omega)]
      exact e1.trans r4
    · intro x1 e1
      obtain rfl : x1 = g 6 := e1.trans a4
      refine qX2_nextReadyRound (by omega) hB rs ?_
      refine hq _ ?_
      rw [if_neg (by omega), if_neg (by omega), if_neg (by omega), if_pos (by omega)]
    · intro x1 e1
      refine hq x1 ?_
      rw [if_neg (by omega), if_neg (by omega), if_neg (by omega), if_neg (by omega), if_pos (by omega)]
      exact e1.trans r5
    · intro x1 e1
      refine hq x1 ?_
      rw [if_neg (by omega), if_neg (by omega), if_neg (by omega), if_neg (by omega), if_neg (by omega), if_pos (by omega)]
      exact e1.trans r6
    · intro x1 e1
      refine hq x1 ?_
      rw [if_neg (by omega), if_neg (by omega), if_neg (by omega), if_neg (by omega), if_neg (by omega), if_neg (by omega), if_pos (by omega)]
      exact e1.trans r7
    · refine hq _ ?_
      rw [if_neg (by omega), if_neg (by omega), if_neg (by omega), if_neg (by omega), if_neg (by omega), if_neg (by omega), if_neg (by omega), if_neg (by omega)]
  refine MetP.go snX4_service [38] 100 rfl rfl rfl rfl (fun _ => ?_)
  refine qX4_hasService (by unfold I32; omega) (Or.inr ⟨s1, by omega⟩) (fun _ q => ?_) (fun q => absurd ⟨s1, by omega⟩ q)
  refine ⟨by omega, fun _ => ?_, fun q => absurd q (by omega)⟩
  refine ⟨by omega, ?_⟩
  refine ⟨by omega, fun q => ?_, fun q2 => ?_⟩
  · exact J (by omega)
  refine ⟨by omega, by omega, fun q => ?_, fun q3 => ?_⟩
  · exact J (by omega)
  refine ⟨by omega, fun x1 e1 => hq x1 ?_⟩
  rw [if_neg (by omega), if_neg (by omega), if_neg (by omega), if_neg (by omega), if_neg (by omega), if_neg (by omega), if_neg (by omega), if_pos (by omega)]
  exact e1.trans (r1 w (by omega) (by omega))
theorem ag_service (hs : I32 s) (hw : I32 w) (h : REL N μ ν) : MetP mX5_service [(105, 0), (0, s), (0, w)] ν (fun b ν' => MetP mX4_service [(104, 0), (0, s), (0, w)] μ (fun a μ' => a = b ∧ REL N μ' ν')) := by
  obtain ⟨hT, hn, hst⟩ := id h
  rcases hst with ⟨s1, s2⟩ | ⟨s1, t, g, v, ht, s2, s3, s4, s5, s6, s7⟩
  · refine MetP.go snX5_service [] 100 rfl rfl rfl rfl (fun _ => ?_)
    refine qX5_isService hs (by omega) (fun q => absurd q (by omega)) (fun q => ?_)
    refine ⟨by omega, fun q => absurd rfl q, fun q => ?_⟩
    refine MetP.go snX4_service [] 100 rfl rfl rfl rfl (fun _ => ?_)
    refine qX4_hasService hs (Or.inl s1) (fun q => absurd q (by omega)) (fun q => ?_)
    refine ⟨by omega, fun q => absurd rfl q, fun q => ?_⟩
    exact ⟨rfl, h⟩
  · obtain ⟨bG, b6, bV⟩ := id s5
    have b7 := bG.2.2.2.2.2.2.2
    have e7 : ν 1 7 = g 7 := RwM_g s4 7 (by omega)
    have d7 : μ 3 2 = g 7 := s6.1.2.1
    by_cases hss : 0 ≤ s ∧ s < g 7
    · refine qX5_service hss hw bG (bV s hss.1 hss.2) s4 (fun y hy => ?_)
      refine qX4_service hss hw bG (bV s hss.1 hss.2) s1 s6 (fun z hz => ?_)
      obtain rfl : z = y := hz.trans hy.symm
      exact ⟨rfl, h⟩
    · refine MetP.go snX5_service [] 100 rfl rfl rfl rfl (fun _ => ?_)
      refine qX5_isService hs (by omega) (fun q => absurd q (by omega)) (fun q => ?_)
      refine ⟨by omega, fun q => absurd rfl q, fun q => ?_⟩
      refine MetP.go snX4_service [] 100 rfl rfl rfl rfl (fun _ => ?_)
      refine qX4_hasService hs (Or.inr ⟨s1, by omega⟩) (fun _ q => absurd q (by omega)) (fun q => ?_)
      refine ⟨by omega, fun q => absurd rfl q, fun q => ?_⟩
      exact ⟨rfl, h⟩
end T63

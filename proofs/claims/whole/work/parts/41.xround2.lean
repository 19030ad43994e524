section X11
variable {μ : Mem} {h R : Int} {g : Int → Int} {v W : Mem} {Q : PV → Mem → Prop}
theorem giveV_11 {u : Int → Int} {x : Int} (hB : BV u) (h11 : u 11 = 0) (hx : 0 ≤ x) : giveV u x 11 = 0 := by
  have hu : ∀ k, 11 ≤ k → k ≤ 17 → 0 ≤ u k := by
    intro k h1 h2
    obtain ⟨-, -, -, -, -, -, -, -, -, -, -, hb, -⟩ := hB
    rcases (show k = 11 ∨ k = 12 ∨ k = 13 ∨ k = 14 ∨ k = 15 ∨ k = 16 ∨ k = 17 by omega) with rfl | rfl | rfl | rfl | rfl | rfl | rfl <;> omega
  have hl := lfN_bd hu hx 6 (by omega)
  unfold giveV giveN
  rw [upg_ne (by omega), if_pos (by omega), h11, show (17 - (11 : Int)).toNat = 6 by omega]
  omega
/-- what step 5 begins with, of a service -/
theorem d4_11 (hG : BG g) (hB : ∀ s, 0 ≤ s → s < g 7 → BV (v s)) {s : Int} (hs : 0 ≤ s ∧ s < g 7) : (d4 g v W).2.1 s 11 = 0 := by
  obtain ⟨-, -, -, -, k3⟩ := d4_ok (W := W) hG hB
  rw [k3 s 11 (by omega), d3v_at hs]
  exact giveV_11 (BV_wake (hB s hs.1 hs.2)) wake_11 (by omega)
/-- got less gave is the move -/
theorem d4_mv (hG : BG g) (hB : ∀ s, 0 ≤ s → s < g 7 → BV (v s)) {s : Int} (hs : 0 ≤ s ∧ s < g 7) : (if cntV (d3v g v W s) < d3W g v W 5 s then (d4 g v W).2.2 8 s else -(d3W g v W 9 s)) = (d4 g v W).2.2 8 s - (d4 g v W).2.2 9 s ∧ ((d4 g v W).2.2 8 s = 0 ∨ (d4 g v W).2.2 9 s = 0) ∧ (0 ≤ (d4 g v W).2.2 9 s ∧ (d4 g v W).2.2 9 s ≤ 20) := by
  have hBw := BV_wake (hB s hs.1 hs.2)
  have hc := cntV_bd hBw
  have hdd := dueV_bd (x := wantedV g (wakeV (v s))) hBw
  obtain ⟨wm, gt, h1, h2, -, h4⟩ := d4_at (W := W) hG hB hs
  obtain ⟨-, -, -, -, w9⟩ := d4_W (W := W) hG hB hs
  have e5 : d3W g v W 5 s = dueV (wantedV g (wakeV (v s))) (wakeV (v s)) := by rw [d3W_ne (by omega), (d2W_at hs).2.2.2]
  have ec : cntV (d3v g v W s) = cntV (wakeV (v s)) - max (cntV (wakeV (v s)) - dueV (wantedV g (wakeV (v s))) (wakeV (v s))) 0 := by rw [d3v_at hs, cnt_giveV]
  rw [ec] at h2
  rw [e5, ec, d3W_at hs, h4, w9]
  refine ⟨?_, by omega, by omega⟩
  split <;> omega
/-- step 5 -/
theorem qX0_round_5 {μ0 : Mem} {t2 : Nat} {x2 : Int} (hG : BG g) (h6 : g 6 < 100000) (hB : ∀ s, 0 ≤ s → s < g 7 → BV (v s)) (hq : ∀ (μ' : Mem) (x1 : Int), RelG μ' h (d5g g v W) → (∀ s, 0 ≤ s → s < g 7 → RelS μ' (h + 2 + 1 + 12 * s) (g 6 + 1) (d5v g v W s)) → (∀ s, 0 ≤ s → s < g 7 → PlF μ' (h + 2 + 1 + 12 * s) ((d4 g v W).2.2 2 s) ((d4 g v W).2.2 3 s) ((d4 g v W).2.2 4 s) ((d4 g v W).2.2 5 s) ((d4 g v W).2.2 7 s)) → FrH μ0 μ' h → OkE mX0_playRound 172 [(100, h), (0, x1), (t2, x2)] [] μ' Q) : ∀ (d : Nat) (i : Int) (μ' : Mem), 0 ≤ i → i + d = g 7 → RelG μ' h (d5g g v W) → (∀ s, 0 ≤ s → s < i → RelS μ' (h + 2 + 1 + 12 * s) (g 6 + 1) (d5v g v W s) ∧ PlF μ' (h + 2 + 1 + 12 * s) ((d4 g v W).2.2 2 s) ((d4 g v W).2.2 3 s) ((d4 g v W).2.2 4 s) ((d4 g v W).2.2 5 s) ((d4 g v W).2.2 7 s)) → (∀ s, i ≤ s → s < g 7 → RelS μ' (h + 2 + 1 + 12 * s) (g 6) ((d4 g v W).2.1 s) ∧ PlS μ' (h + 2 + 1 + 12 * s) (g 6) ((d4 g v W).2.2 2 s) ((d4 g v W).2.2 3 s) ((d4 g v W).2.2 4 s) ((d4 g v W).2.2 5 s) ((d4 g v W).2.2 7 s) ((d4 g v W).2.2 8 s - (d4 g v W).2.2 9 s)) → FrH μ0 μ' h → OkE mX0_playRound 145 [(100, h), (0, i), (t2, x2)] [] μ' Q := by
  obtain ⟨-, -, -, -, -, -, g6, g7⟩ := id hG
  obtain ⟨-, -, k1, -, -⟩ := d4_ok (W := W) hG hB
  have e7 : d5g g v W 7 = g 7 := by unfold d5g; rw [upg_ne (by omega), k1 7 (by omega)]
  have e6 : d5g g v W 6 = g 6 := by unfold d5g; rw [upg_ne (by omega), k1 6 (by omega)]
  intro d
  induction d with
  | zero =>
    intro i μ' h0 hd hH hA hC hF
    refine OkE.go snX0_playRound [145, 172] 100 ?_
    intro y1 e1
    obtain rfl := e1.trans (hH.2.1.trans e7)
    refine ⟨by omega, by omega, fun _ => ?_, fun q => absurd q (by omega)⟩
    exact hq μ' _ hH (fun s p q => (hA s p (by omega)).1) (fun s p q => (hA s p (by omega)).2) hF
  | succ d ih =>
    intro i μ' h0 hd hH hA hC hF
    obtain ⟨hSi, hPi⟩ := hC i (by omega) (by omega)
    obtain ⟨hB4, hB5, hg8⟩ := does_BV (W := W) hG hB (s := i) ⟨h0, by omega⟩
    obtain ⟨-, m2, m3⟩ := d4_mv (W := W) hG hB (s := i) ⟨h0, by omega⟩
    have hx := wantedV_bd (g := g) (BV_wake (hB i h0 (by omega)))
    obtain ⟨w2, -, -, -, -⟩ := d4_W (W := W) hG hB (s := i) ⟨h0, by omega⟩
    refine OkE.go snX0_playRound [145, 172] 100 ?_
    intro y1 e1
    obtain rfl := e1.trans (hH.2.1.trans e7)
    refine ⟨by omega, by omega, fun q => absurd q (by omega), fun _ => ?_⟩
    refine ⟨by omega, ?_⟩
    intro y2 e2
    obtain rfl := e2.trans (hH.2.2.2.trans e6)
    refine qX2_close (by omega) hSi hB4 (d4_11 hG hB ⟨h0, by omega⟩) (by rw [w2]; exact hx) ⟨hg8, m3, m2⟩ hPi (fun μ1 S1 P1 F1 => ?_)
    refine ih (i + 1) μ1 (by omega) (by omega) (hH.frame h0 F1) (fun s p q => ?_) (fun s p q => ?_) (hF.step ⟨h0, by omega⟩ F1)
    · by_cases hsi : s = i
      · subst hsi
        refine ⟨?_, P1⟩
        rw [d5v_at ⟨h0, by omega⟩]
        exact S1
      · obtain ⟨a1, a2⟩ := hA s p (by omega)
        exact ⟨a1.other hsi (BV9 (does_BV (W := W) hG hB (s := s) ⟨p, by omega⟩).2.1).2 F1, a2.other hsi F1⟩
    · obtain ⟨a1, a2⟩ := hC s (by omega) q
      have hsi : s ≠ i := by omega
      exact ⟨a1.other hsi (BV9 (does_BV (W := W) hG hB (s := s) ⟨by omega, q⟩).1).2 F1, a2.other hsi F1⟩
/-- A ROUND of the class is the round of the row -/
theorem qX0_playRound (W : Mem) (hG : BG g) (h6 : g 6 < 100000) (hB : ∀ s, 0 ≤ s → s < g 7 → BV (v s)) (hH : RelG μ h g) (hS : ∀ s, 0 ≤ s → s < g 7 → RelS μ (h + 2 + 1 + 12 * s) (g 6) (v s))
    (hq : ∀ μ', RelG μ' h (doesX g v W).1 → (∀ s, 0 ≤ s → s < g 7 → RelS μ' (h + 2 + 1 + 12 * s) (g 6 + 1) ((doesX g v W).2.1 s)) → (∀ s, 0 ≤ s → s < g 7 → PlF μ' (h + 2 + 1 + 12 * s) ((d4 g v W).2.2 2 s) ((d4 g v W).2.2 3 s) ((d4 g v W).2.2 4 s) ((d4 g v W).2.2 5 s) ((d4 g v W).2.2 7 s)) → FrH μ μ' h → Q (9, 0) μ') : MetP mX0_playRound [(100, h)] μ Q := by
  obtain ⟨g0, g1, g2, g3, g4, g5, g6, g7⟩ := id hG
  obtain ⟨⟨B, hO⟩, -, k1, k2, -⟩ := d4_ok (W := W) hG hB
  have h5b := hO.2.2.1
  have e6 : d5g g v W 6 = g 6 := by unfold d5g; rw [upg_ne (by omega), k1 6 (by omega)]
  have J172 : ∀ (μ' : Mem) (x1 x2 : Int) (t2 : Nat), RelG μ' h (d5g g v W) → (∀ s, 0 ≤ s → s < g 7 → RelS μ' (h + 2 + 1 + 12 * s) (g 6 + 1) (d5v g v W s)) → (∀ s, 0 ≤ s → s < g 7 → PlF μ' (h + 2 + 1 + 12 * s) ((d4 g v W).2.2 2 s) ((d4 g v W).2.2 3 s) ((d4 g v W).2.2 4 s) ((d4 g v W).2.2 5 s) ((d4 g v W).2.2 7 s)) → FrH μ μ' h → OkE mX0_playRound 172 [(100, h), (0, x1), (t2, x2)] [] μ' Q := by
    intro μ' x1 x2 t2 hH2 hS2 hP2 hF2
    refine OkE.go snX0_playRound [] 100 ?_
    intro y1 e1
    obtain rfl := e1.trans (hH2.2.2.2.trans e6)
    intro μ1 d1
    have n1 : ∀ a b, ¬ (a = h ∧ b = 4) → μ1 a b = μ' a b := fun a b hn => by rw [d1]; exact upm_ne hn
    refine hq μ1 ⟨fun k p q => ?_, ?_, ?_, ?_⟩ (fun s p q => ?_) (fun s p q => ?_) (fun a b hn => (n1 a b (by omega)).trans (hF2 a b hn))
    · rw [n1 _ _ (by omega)]
      show _ = upg (d5g g v W) 6 _ k
      rw [upg_ne (by omega)]
      exact hH2.1 k p q
    · rw [n1 _ _ (by omega)]
      show _ = upg (d5g g v W) 6 (d5g g v W 6 + 1) 7
      rw [upg_ne (by omega)]
      exact hH2.2.1
    · rw [n1 _ _ (by omega)]
      show _ = upg (d5g g v W) 6 (d5g g v W 6 + 1) 5
      rw [upg_ne (by omega)]
      exact hH2.2.2.1
    · show _ = upg (d5g g v W) 6 (d5g g v W 6 + 1) 6
      rw [upg_at, e6, d1]
      exact upm_at _ _ _ _
    · refine (hS2 s p q).frame (BV9 (does_BV (W := W) hG hB (s := s) ⟨p, q⟩).2.1).2 (fun a b p1 p2 => n1 a b (by omega))
    · obtain ⟨a, b, c, d, e⟩ := hP2 s p q
      exact ⟨(n1 _ _ (by omega)).trans a, (n1 _ _ (by omega)).trans b, (n1 _ _ (by omega)).trans c, (n1 _ _ (by omega)).trans d, (n1 _ _ (by omega)).trans e⟩
  have J115 : ∀ (μ' : Mem) (x1 x2 : Int) (t2 : Nat), RelG μ' h g → (∀ s, 0 ≤ s → s < g 7 → RelS μ' (h + 2 + 1 + 12 * s) (g 6) (d3v g v W s)) → (∀ s, 0 ≤ s → s < g 7 → PlS μ' (h + 2 + 1 + 12 * s) (g 6) (d2W g v W 2 s) (d2W g v W 3 s) (d2W g v W 4 s) (d2W g v W 5 s) (-1) (-(d3W g v W 9 s))) → FrH μ μ' h → OkE mX0_playRound 115 [(100, h), (0, x1), (t2, x2)] [] μ' Q := by
    intro μ' x1 x2 t2 hH2 hS2 hP2 hF2
    have hpre := d4_pre (W := W) hB
    refine OkE.go snX0_playRound [145] 100 ?_
    refine qX0_giveOut (v := d3v g v W) (W := d3W g v W) (xw := fun s => d2W g v W 2 s) (st := fun s => d2W g v W 3 s) (bd := fun s => d2W g v W 4 s) (mv0 := fun s => -(d3W g v W 9 s)) hG rfl hH2 hS2 (fun s p q => ?_) (fun s p q => (hpre s p q).2.2) (fun s p q => ?_) (fun s p q hw => ?_) (fun μ1 hH1 hS1 hP1 hF1 => ?_)
    · have hBw := BV_wake (hB s p q)
      have hc := cntV_bd hBw
      have hdd := dueV_bd (x := wantedV g (wakeV (v s))) hBw
      rw [d3v_at ⟨p, q⟩]
      exact BV_give hBw (by omega)
    · rw [d3W_ne (by omega)]
      exact hP2 s p q
    · have hBw := BV_wake (hB s p q)
      rw [d3W_ne (by omega), (d2W_at ⟨p, q⟩).2.2.2, d3v_at ⟨p, q⟩, cnt_giveV] at hw
      rw [d3W_at ⟨p, q⟩]
      omega
    · have hH1 : RelG μ1 h (d4 g v W).1 := hH1
      have e3 := k1 3 (by omega)
      have e2 := k1 2 (by omega)
      intro y1 e1
      obtain rfl := e1.trans hH1.2.2.1
      refine ⟨by omega, fun y2 f2 => ?_⟩
      obtain rfl := f2.trans (hH1.1 3 (by omega) (by omega))
      refine ⟨by omega, fun y3 f3 => ?_⟩
      obtain rfl := f3.trans (hH1.1 2 (by omega) (by omega))
      refine ⟨by omega, by omega, ?_⟩
      intro μ2 d2
      have n2 : ∀ a b, ¬ (a = h ∧ b = 3) → μ2 a b = μ1 a b := fun a b hn => by rw [d2]; exact upm_ne hn
      have hl := qX0_round_5 (μ0 := μ) (t2 := t2) (x2 := x2) (W := W) hG h6 hB (fun μ' x1 a b c d => J172 μ' x1 x2 t2 a b c d) (g 7).toNat 0 μ2 (by omega) (by omega) ⟨fun k p q => by
          rw [n2 _ _ (by omega)]
          unfold d5g
          rw [upg_ne (by omega)]
          exact hH1.1 k p q, by
          rw [n2 _ _ (by omega)]
          unfold d5g
          rw [upg_ne (by omega)]
          exact hH1.2.1, by
          unfold d5g
          rw [upg_at, d2]
          exact upm_at _ _ _ _, by
          rw [n2 _ _ (by omega)]
          unfold d5g
          rw [upg_ne (by omega)]
          exact hH1.2.2.2⟩ (fun s p q => by omega) (fun s p q => by
          refine ⟨(hS1 s p q).frame (BV9 (does_BV (W := W) hG hB (s := s) ⟨p, q⟩).1).2 (fun a b p1 p2 => n2 a b (by omega)), ?_⟩
          obtain ⟨w2, w3, w4, w5, -⟩ := d4_W (W := W) hG hB (s := s) ⟨p, q⟩
          obtain ⟨z2, z3, z4, z5⟩ := d2W_at (W := W) (g := g) (v := v) (s := s) ⟨p, q⟩
          have hmv := (d4_mv (W := W) hG hB (s := s) ⟨p, q⟩).1
          have hP : PlS μ1 (h + 2 + 1 + 12 * s) (g 6) (d2W g v W 2 s) (d2W g v W 3 s) (d2W g v W 4 s) (d3W g v W 5 s) ((d4 g v W).2.2 7 s) (if cntV (d3v g v W s) < d3W g v W 5 s then (d4 g v W).2.2 8 s else -(d3W g v W 9 s)) := hP1 s p q
          rw [hmv, d3W_ne (by omega), z2, z3, z4, z5, ← w5, ← w4, ← w3, ← w2] at hP
          obtain ⟨a, b, c, d, e, f⟩ := hP
          exact ⟨(n2 _ _ (by omega)).trans a, (n2 _ _ (by omega)).trans b, (n2 _ _ (by omega)).trans c, (n2 _ _ (by omega)).trans d, (n2 _ _ (by omega)).trans e, (n2 _ _ (by omega)).trans f⟩) (fun a b hn => (n2 a b (by omega)).trans ((hF1 a b hn).trans (hF2 a b hn)))
      exact hl
  have h3 : ∀ (μ' : Mem) (t2 : Nat) (x2 : Int), RelG μ' h g → (∀ s, 0 ≤ s → s < g 7 → RelS μ' (h + 2 + 1 + 12 * s) (g 6) (d1v g v s)) → (∀ s, 0 ≤ s → s < g 7 → PlS μ' (h + 2 + 1 + 12 * s) (g 6) (d2W g v W 2 s) (d2W g v W 3 s) (d2W g v W 4 s) (d2W g v W 5 s) (-1) 0) → FrH μ μ' h → OkE mX0_playRound 88 [(100, h), (0, 0), (t2, x2)] [] μ' Q := by
    intro μ' t2 x2 hH2 hS2 hP2 hF2
    refine qX0_round_3 (W := W) hG hB (fun μ'' x1 a b c d => J115 μ'' x1 x2 t2 a b c d) (g 7).toNat 0 μ' (by omega) (by omega) hH2 (fun s p q => ?_) (fun s p q => ?_) hF2
    · rw [if_neg (by omega)]; exact hS2 s p q
    · rw [if_neg (by omega)]; exact hP2 s p q
  refine MetP.go snX0_playRound [2] 100 rfl rfl rfl rfl (fun _ => ?_)
  refine qX0_round_1 (μ0 := μ) hG hB (fun μ' hH2 hS2 hF2 => ?_) (g 7).toNat 0 μ (by omega) (by omega) hH (fun s p q => by rw [wakeTo_0]; exact hS s p q) (fun _ _ _ => rfl)
  exact qX0_round_2 (W := W) hG hB h3 (g 7).toNat 0 μ' 9 0 (by omega) (by omega) hH2 hS2 (fun s p q => by omega) hF2
end X11

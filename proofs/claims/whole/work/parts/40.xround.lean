section X10
variable {μ : Mem} {h R : Int} {g : Int → Int} {v W : Mem} {Q : PV → Mem → Prop}
theorem RelG.frame {μ' : Mem} {s : Int} (hs : 0 ≤ s) (hF : FrS μ μ' (h + 2 + 1 + 12 * s)) (hH : RelG μ h g) : RelG μ' h g := by
  obtain ⟨h1, h2, h3, h4⟩ := hH
  exact ⟨fun k p q => (hF _ _ (by omega)).trans (h1 k p q), (hF _ _ (by omega)).trans h2, (hF _ _ (by omega)).trans h3, (hF _ _ (by omega)).trans h4⟩
theorem RelS.other {μ' : Mem} {s s' : Int} {u : Int → Int} (hne : s' ≠ s) (h9 : u 9 ≤ 3) (hF : FrS μ μ' (h + 2 + 1 + 12 * s)) (hS : RelS μ (h + 2 + 1 + 12 * s') R u) : RelS μ' (h + 2 + 1 + 12 * s') R u := hS.frame h9 (fun a b p q => hF a b (by omega))
theorem PlS.other {μ' : Mem} {s s' : Int} {x st bd du pl mv : Int} (hne : s' ≠ s) (hF : FrS μ μ' (h + 2 + 1 + 12 * s)) (hP : PlS μ (h + 2 + 1 + 12 * s') R x st bd du pl mv) : PlS μ' (h + 2 + 1 + 12 * s') R x st bd du pl mv := by
  obtain ⟨a, b, c, d, e, f⟩ := hP
  exact ⟨(hF _ _ (by omega)).trans a, (hF _ _ (by omega)).trans b, (hF _ _ (by omega)).trans c, (hF _ _ (by omega)).trans d, (hF _ _ (by omega)).trans e, (hF _ _ (by omega)).trans f⟩
theorem PlF.other {μ' : Mem} {s s' : Int} {x st bd du pl : Int} (hne : s' ≠ s) (hF : FrS μ μ' (h + 2 + 1 + 12 * s)) (hP : PlF μ (h + 2 + 1 + 12 * s') x st bd du pl) : PlF μ' (h + 2 + 1 + 12 * s') x st bd du pl := by
  obtain ⟨a, b, c, d, e⟩ := hP
  exact ⟨(hF _ _ (by omega)).trans a, (hF _ _ (by omega)).trans b, (hF _ _ (by omega)).trans c, (hF _ _ (by omega)).trans d, (hF _ _ (by omega)).trans e⟩
theorem FrH.step {μ0 μ' : Mem} {s : Int} (hs : 0 ≤ s ∧ s < 4) (h1 : FrH μ0 μ h) (hF : FrS μ μ' (h + 2 + 1 + 12 * s)) : FrH μ0 μ' h := fun a b hn => (hF a b (by omega)).trans (h1 a b hn)
theorem BV9 {u : Int → Int} (hB : BV u) : 0 ≤ u 9 ∧ u 9 ≤ 3 := by obtain ⟨-, -, -, -, -, -, -, -, -, -, h9, -⟩ := hB; exact h9
/-- step 1 -/
theorem qX0_round_1 {μ0 : Mem} {t2 : Nat} {x2 : Int} (hG : BG g) (hB : ∀ s, 0 ≤ s → s < g 7 → BV (v s)) (hq : ∀ μ', RelG μ' h g → (∀ s, 0 ≤ s → s < g 7 → RelS μ' (h + 2 + 1 + 12 * s) (g 6) (d1v g v s)) → FrH μ0 μ' h → OkE mX0_playRound 31 [(100, h), (0, 0), (t2, x2)] [] μ' Q) : ∀ (d : Nat) (i : Int) (μ' : Mem), 0 ≤ i → i + d = g 7 → RelG μ' h g → (∀ s, 0 ≤ s → s < g 7 → RelS μ' (h + 2 + 1 + 12 * s) (g 6) (wakeTo v i s)) → FrH μ0 μ' h → OkE mX0_playRound 2 [(100, h), (0, i), (t2, x2)] [] μ' Q
  | 0, i, μ', h0, hd, hH, hS, hF => by
    obtain ⟨-, -, -, -, -, -, -, g7⟩ := id hG
    refine OkE.go snX0_playRound [2, 31] 100 ?_
    intro y1 e1
    obtain rfl := e1.trans hH.2.1
    refine ⟨by omega, by omega, fun _ => ?_, fun q => absurd q (by omega)⟩
    rw [show i = g 7 by omega] at hS
    exact hq μ' hH hS hF
  | d + 1, i, μ', h0, hd, hH, hS, hF => by
    obtain ⟨-, -, -, -, -, -, g6, g7⟩ := id hG
    have hSi := hS i h0 (by omega)
    have ei : wakeTo v i i = v i := by funext w; exact wakeTo_at
    rw [ei] at hSi
    refine OkE.go snX0_playRound [2, 31] 100 ?_
    intro y1 e1
    obtain rfl := e1.trans hH.2.1
    refine ⟨by omega, by omega, fun q => absurd q (by omega), fun _ => ?_⟩
    refine ⟨by omega, ?_⟩
    intro y2 e2
    obtain rfl := e2.trans hH.2.2.2
    refine qX2_wake (by omega) hSi (BV9 (hB i h0 (by omega))).2 (fun μ1 S1 F1 => ?_)
    refine qX0_round_1 hG hB hq d (i + 1) μ1 (by omega) (by omega) (hH.frame h0 F1) (fun s p q => ?_) (hF.step ⟨h0, by omega⟩ F1)
    by_cases hsi : s = i
    · subst hsi
      have e : wakeTo v (s + 1) s = wakeV (v s) := by funext w; unfold wakeTo; rw [if_pos (by omega)]
      rw [e]
      exact S1
    · have e : wakeTo v (i + 1) s = wakeTo v i s := by
        funext w
        unfold wakeTo
        by_cases hq2 : 0 ≤ s ∧ s < i
        · rw [if_pos hq2, if_pos (by omega)]
        · rw [if_neg hq2, if_neg (by omega)]
      rw [e]
      refine (hS s p q).other hsi ?_ F1
      have h9 := (BV9 (hB s p q)).2
      unfold wakeTo
      split
      · rw [wake_ne (by omega) (by omega)]; exact h9
      · exact h9
/-- step 2 -/
theorem qX0_round_2 {μ0 : Mem} (hG : BG g) (hB : ∀ s, 0 ≤ s → s < g 7 → BV (v s)) (hq : ∀ (μ' : Mem) (t2 : Nat) (x2 : Int), RelG μ' h g → (∀ s, 0 ≤ s → s < g 7 → RelS μ' (h + 2 + 1 + 12 * s) (g 6) (d1v g v s)) → (∀ s, 0 ≤ s → s < g 7 → PlS μ' (h + 2 + 1 + 12 * s) (g 6) (d2W g v W 2 s) (d2W g v W 3 s) (d2W g v W 4 s) (d2W g v W 5 s) (-1) 0) → FrH μ0 μ' h → OkE mX0_playRound 88 [(100, h), (0, 0), (t2, x2)] [] μ' Q) : ∀ (d : Nat) (i : Int) (μ' : Mem) (t2 : Nat) (x2 : Int), 0 ≤ i → i + d = g 7 → RelG μ' h g → (∀ s, 0 ≤ s → s < g 7 → RelS μ' (h + 2 + 1 + 12 * s) (g 6) (d1v g v s)) → (∀ s, 0 ≤ s → s < i → PlS μ' (h + 2 + 1 + 12 * s) (g 6) (d2W g v W 2 s) (d2W g v W 3 s) (d2W g v W 4 s) (d2W g v W 5 s) (-1) 0) → FrH μ0 μ' h → OkE mX0_playRound 31 [(100, h), (0, i), (t2, x2)] [] μ' Q
  | 0, i, μ', t2, x2, h0, hd, hH, hS, hP, hF => by
    obtain ⟨-, -, -, -, -, -, -, g7⟩ := id hG
    refine OkE.go snX0_playRound [31, 88] 100 ?_
    intro y1 e1
    obtain rfl := e1.trans hH.2.1
    refine ⟨by omega, by omega, fun _ => ?_, fun q => absurd q (by omega)⟩
    exact hq μ' t2 x2 hH hS (fun s p q => hP s p (by omega)) hF
  | d + 1, i, μ', t2, x2, h0, hd, hH, hS, hP, hF => by
    obtain ⟨-, -, -, -, -, -, g6, g7⟩ := id hG
    have hSi := hS i h0 (by omega)
    rw [d1v_at ⟨h0, by omega⟩] at hSi
    have hBi := hB i h0 (by omega)
    have hBw := BV_wake hBi
    have h9w := BV9 hBw
    have hx := wantedV_bd (g := g) hBw
    obtain ⟨w2, w3, w4, w5⟩ := d2W_at (g := g) (v := v) (W := W) (s := i) ⟨h0, by omega⟩
    have J69 : ∀ z, z = wantedV g (wakeV (v i)) → OkE mX0_playRound 69 [(100, h), (0, i), (102, h + 2 + 1 + 12 * i)] [(0, z), (102, h + 2 + 1 + 12 * i)] μ' Q := by
      intro z hz
      refine OkE.go snX0_playRound [31] 100 ?_
      intro μ1 d1
      have S1 : RelS μ1 (h + 2 + 1 + 12 * i) (g 6) (wakeV (v i)) := by rw [d1]; exact hSi.put h9w.2 (by omega) (Or.inl ⟨rfl, by omega⟩)
      have F1 : FrS μ' μ1 (h + 2 + 1 + 12 * i) := by rw [d1]; exact upm_frS (by show h + 2 + 1 + 12 * i ≤ h + 2 + 1 + 12 * i ∧ h + 2 + 1 + 12 * i < h + 2 + 1 + 12 * i + 12; omega)
      have v12 : μ1 (h + 2 + 1 + 12 * i) 12 = wantedV g (wakeV (v i)) := by rw [d1]; exact (upm_at _ _ _ _).trans hz
      intro y2 e2
      obtain rfl := e2.trans (hH.frame h0 F1).2.2.2
      refine qX2_plan (by omega) S1 hBw hx v12 (fun μ2 S2 P2 F2 => ?_)
      have F12 := F1.trans F2
      refine qX0_round_2 hG hB hq d (i + 1) μ2 102 _ (by omega) (by omega) (hH.frame h0 F12) (fun s p q => ?_) (fun s p q => ?_) (hF.step ⟨h0, by omega⟩ F12)
      · by_cases hsi : s = i
        · subst hsi; rw [d1v_at ⟨h0, by omega⟩]; exact S2
        · refine (hS s p q).other hsi ?_ F12
          rw [d1v_at ⟨p, q⟩]
          exact (BV9 (BV_wake (hB s p q))).2
      · by_cases hsi : s = i
        · subst hsi; rw [w2, w3, w4, w5]; exact P2
        · exact (hP s p (by omega)).other hsi F12
    refine OkE.go snX0_playRound [31, 88, 69] 100 ?_
    intro y1 e1
    obtain rfl := e1.trans hH.2.1
    refine ⟨by omega, by omega, fun q => absurd q (by omega), fun _ => ?_⟩
    refine ⟨by omega, ?_⟩
    intro y2 e2
    obtain rfl := e2.trans hSi.2.1.1
    have e9 : wakeV (v i) 9 = v i 9 := wake_ne (by omega) (by omega)
    have eu : wakeV (wakeV (v i)) = wakeV (v i) := by
      funext w
      by_cases h10 : w = 10
      · subst h10; rw [wake_10, wake_11]; omega
      · by_cases h11 : w = 11
        · subst h11; rw [wake_11, wake_11]
        · rw [wake_ne h10 h11]
    refine ⟨by omega, fun q => ?_, fun q => ?_⟩
    · refine qX0_wantBeside (u := wakeV (v i)) hH hG hSi hBw (by omega) ?_
      rw [eu, bsN_all q]
      exact J69 _ rfl
    · refine ⟨by omega, fun y3 e3 => ?_⟩
      obtain rfl := e3.trans (hSi.1 0 (by omega) (by omega))
      refine J69 _ ?_
      have hq0 : wakeV (v i) 9 = 0 := by omega
      unfold wantedV
      rw [hq0]
      show _ = if wakeV (v i) 9 = 0 then wakeV (v i) 0 else 0
      rw [if_pos hq0]
/-- step 3 -/
theorem qX0_round_3 {μ0 : Mem} {t2 : Nat} {x2 : Int} (hG : BG g) (hB : ∀ s, 0 ≤ s → s < g 7 → BV (v s)) (hq : ∀ (μ' : Mem) (x1 : Int), RelG μ' h g → (∀ s, 0 ≤ s → s < g 7 → RelS μ' (h + 2 + 1 + 12 * s) (g 6) (d3v g v W s)) → (∀ s, 0 ≤ s → s < g 7 → PlS μ' (h + 2 + 1 + 12 * s) (g 6) (d2W g v W 2 s) (d2W g v W 3 s) (d2W g v W 4 s) (d2W g v W 5 s) (-1) (-(d3W g v W 9 s))) → FrH μ0 μ' h → OkE mX0_playRound 115 [(100, h), (0, x1), (t2, x2)] [] μ' Q) : ∀ (d : Nat) (i : Int) (μ' : Mem), 0 ≤ i → i + d = g 7 → RelG μ' h g → (∀ s, 0 ≤ s → s < g 7 → RelS μ' (h + 2 + 1 + 12 * s) (g 6) (if s < i then d3v g v W s else d1v g v s)) → (∀ s, 0 ≤ s → s < g 7 → PlS μ' (h + 2 + 1 + 12 * s) (g 6) (d2W g v W 2 s) (d2W g v W 3 s) (d2W g v W 4 s) (d2W g v W 5 s) (-1) (if s < i then -(d3W g v W 9 s) else 0)) → FrH μ0 μ' h → OkE mX0_playRound 88 [(100, h), (0, i), (t2, x2)] [] μ' Q
  | 0, i, μ', h0, hd, hH, hS, hP, hF => by
    obtain ⟨-, -, -, -, -, -, -, g7⟩ := id hG
    refine OkE.go snX0_playRound [88, 115] 100 ?_
    intro y1 e1
    obtain rfl := e1.trans hH.2.1
    refine ⟨by omega, by omega, fun _ => ?_, fun q => absurd q (by omega)⟩
    refine hq μ' _ hH (fun s p q => ?_) (fun s p q => ?_) hF
    · have := hS s p q
      rw [if_pos (by omega)] at this
      exact this
    · have := hP s p q
      rw [if_pos (by omega)] at this
      exact this
  | d + 1, i, μ', h0, hd, hH, hS, hP, hF => by
    obtain ⟨-, -, -, -, -, -, g6, g7⟩ := id hG
    have hSi := hS i h0 (by omega)
    have hPi := hP i h0 (by omega)
    rw [if_neg (by omega), d1v_at ⟨h0, by omega⟩] at hSi
    rw [if_neg (by omega)] at hPi
    have hBw := BV_wake (hB i h0 (by omega))
    obtain ⟨w2, w3, w4, w5⟩ := d2W_at (g := g) (v := v) (W := W) (s := i) ⟨h0, by omega⟩
    have hdd := dueV_bd (x := wantedV g (wakeV (v i))) hBw
    have hcw := cntV_bd hBw
    refine OkE.go snX0_playRound [88, 115] 100 ?_
    intro y1 e1
    obtain rfl := e1.trans hH.2.1
    refine ⟨by omega, by omega, fun q => absurd q (by omega), fun _ => ?_⟩
    refine ⟨by omega, ?_⟩
    intro y2 e2
    obtain rfl := e2.trans hH.2.2.2
    refine qX2_giveUp (by omega) hSi hBw wake_11 (by rw [w5]; omega) hPi (fun μ1 S1 P1 F1 => ?_)
    refine qX0_round_3 hG hB hq d (i + 1) μ1 (by omega) (by omega) (hH.frame h0 F1) (fun s p q => ?_) (fun s p q => ?_) (hF.step ⟨h0, by omega⟩ F1)
    · by_cases hsi : s = i
      · subst hsi
        rw [if_pos (by omega), d3v_at ⟨h0, by omega⟩, ← w5]
        exact S1
      · have h1 := hS s p q
        have h9s := (BV9 (BV_wake (hB s p q))).2
        by_cases hlt : s < i
        · rw [if_pos hlt] at h1
          rw [if_pos (by omega)]
          refine h1.other hsi ?_ F1
          rw [d3v_at ⟨p, q⟩, giveV_ne (Or.inl (by omega))]
          exact h9s
        · rw [if_neg hlt] at h1
          rw [if_neg (by omega)]
          refine h1.other hsi ?_ F1
          rw [d1v_at ⟨p, q⟩]
          exact h9s
    · by_cases hsi : s = i
      · subst hsi
        rw [if_pos (by omega), d3W_at ⟨h0, by omega⟩, ← w5]
        exact P1
      · have h1 := hP s p q
        by_cases hlt : s < i
        · rw [if_pos hlt] at h1
          rw [if_pos (by omega)]
          exact h1.other hsi F1
        · rw [if_neg hlt] at h1
          rw [if_neg (by omega)]
          exact h1.other hsi F1
end X10
